/-! X2_readClause -/
def pX2_readClause_201 (N K : Nat) (R : Int32 → gM → Prop) (M : gM) (a0 : Nat) (x1 : Int32) : Prop := pX6_put N K M (a0 + 2) 12 460 0 0 (fun v1 M1 => ∀ M2 : gM, M2 = (g_wi M1 (a0 + 2) 6 (x1 + 1)) → R 1 M2)
def pX2_readClause_144 (N K : Nat) (R : Int32 → gM → Prop) (M : gM) (a0 : Nat) (x1 : Int32) : Prop := (vp_in (x1) 12) ∧ ∀ M1 : gM, M1 = (g_wi M ((a0 + 2) + 4) (x1).toNatClampNeg (g_mi M (a0 + 2) 7)) → (vp_in ((g_mi M1 a0 10)) 401) ∧ (((g_mi M1 (a0 + 11) ((g_mi M1 a0 10)).toNatClampNeg) = 18 → pX2_pass N K M1 a0 (fun M2 => pX2_readTest N K M2 a0 0 (fun v1 M3 => ((¬ v1 = 0 → pX2_readClause_201 N K R M3 a0 x1) ∧ (v1 = 0 → R 0 M3))))) ∧ (¬ (g_mi M1 (a0 + 11) ((g_mi M1 a0 10)).toNatClampNeg) = 18 → pX6_put N K M1 (a0 + 2) 12 460 1 1 (fun v2 M4 => pX2_readClause_201 N K R M4 a0 x1)))
def pX2_readClause_103 (N K : Nat) (R : Int32 → gM → Prop) (M : gM) (a0 : Nat) (x1 : Int32) : Prop := pX6_put N K M (a0 + 2) 12 460 0 0 (fun v1 M1 => (((g_mi M1 a0 12) = 0 → pX2_readClause_144 N K R M1 a0 x1) ∧ (¬ (g_mi M1 a0 12) = 0 → (vp_in ((g_mi M1 a0 10)) 401) ∧ ((¬ (g_mi M1 (a0 + 11) ((g_mi M1 a0 10)).toNatClampNeg) = 17 → pX2_readClause_144 N K R M1 a0 x1) ∧ ((g_mi M1 (a0 + 11) ((g_mi M1 a0 10)).toNatClampNeg) = 17 → pX2_readTimes N K M1 a0 x1 (fun v2 M2 => ((¬ v2 = 0 → pX2_readClause_144 N K R M2 a0 x1) ∧ (v2 = 0 → R 0 M2))))))))
def pX2_readClause_80 (N K : Nat) (R : Int32 → gM → Prop) (M : gM) (a0 : Nat) (x1 : Int32) : Prop := pX6_put N K M (a0 + 2) 12 460 1 0 (fun v1 M1 => pX2_readClause_103 N K R M1 a0 x1)
def pX2_readClause (N K : Nat) (M : gM) (a0 : Nat) (x1 : Int32) (R : Int32 → gM → Prop) : Prop := (((g_mi M a0 12) = 0 → (EX2_lawKind M a0) ∧ ∀ v1 : Int32, v1 = (fX2_lawKind M a0) → ((¬ v1 = (-1) → pX2_pass N K M a0 (fun M1 => (vp_in (x1) 12) ∧ ∀ M2 : gM, M2 = (g_wi M1 ((a0 + 2) + 1) (x1).toNatClampNeg v1) → (vp_in (x1) 12) ∧ ∀ M3 : gM, M3 = (g_wi M2 ((a0 + 2) + 2) (x1).toNatClampNeg 1) → (vp_in (x1) 12) ∧ ∀ M4 : gM, M4 = (g_wi M3 ((a0 + 2) + 3) (x1).toNatClampNeg (g_mi M3 (a0 + 2) 7)) → ((v1 = 4 → pX2_readClause_80 N K R M4 a0 x1) ∧ (¬ v1 = 4 → ((¬ v1 = 6 → pX2_readSum N K M4 a0 0 (fun v2 M5 => ((¬ v2 = 0 → pX2_readClause_103 N K R M5 a0 x1) ∧ (v2 = 0 → R 0 M5)))) ∧ (v1 = 6 → pX2_readClause_80 N K R M4 a0 x1)))))) ∧ (v1 = (-1) → pX2_fail N K M a0 (fun v3 M6 => (v3 = 0 ∨ v3 = 1) ∧ R v3 M6)))) ∧ (¬ (g_mi M a0 12) = 0 → (EX2_orderKind M a0) ∧ ∀ v4 : Int32, v4 = (fX2_orderKind M a0) → ((¬ v4 = (-1) → pX2_pass N K M a0 (fun M7 => (vp_in (x1) 12) ∧ ∀ M8 : gM, M8 = (g_wi M7 ((a0 + 2) + 1) (x1).toNatClampNeg v4) → (vp_in (x1) 12) ∧ ∀ M9 : gM, M9 = (g_wi M8 ((a0 + 2) + 2) (x1).toNatClampNeg 1) → (vp_in (x1) 12) ∧ ∀ M10 : gM, M10 = (g_wi M9 ((a0 + 2) + 3) (x1).toNatClampNeg (g_mi M9 (a0 + 2) 7)) → ((v4 = 4 → pX2_readClause_80 N K R M10 a0 x1) ∧ (¬ v4 = 4 → ((¬ v4 = 6 → pX2_readSum N K M10 a0 0 (fun v5 M11 => ((¬ v5 = 0 → pX2_readClause_103 N K R M11 a0 x1) ∧ (v5 = 0 → R 0 M11)))) ∧ (v4 = 6 → pX2_readClause_80 N K R M10 a0 x1)))))) ∧ (v4 = (-1) → pX2_fail N K M a0 (fun v6 M12 => (v6 = 0 ∨ v6 = 1) ∧ R v6 M12)))))
set_option maxRecDepth 10000 in
theorem uxX2_readClause_201 {N K : Nat} {X : gX} {d mc ms : Nat} {Q : Option Value → gM → Prop} {R : Int32 → gM → Prop} {M : gM} {a0 : Nat} {x1 : Int32} (s0 : Re M a0) (H : pX2_readClause_201 N K R M a0 x1) (hR : ∀ (v : Int32) (M1 : gM), Sm M M1 → R v M1 → Q (some (.int v)) M1) : Go X (d + K + 4) mc ms kX2_readClause Q 201 [(0, .ref a0), (1, .int (x1))] [] M 0 0 := by
  unfold pX2_readClause_201 at H
  refine g_aload_n 0 202 dX2_readClause_201 rfl rfl ?_
  refine g_getR 205 (a0 + 2) dX2_readClause_202 rfl flX2_20 s0.1 s0.2.2.2.1 ?_
  refine g_iconst (0) 206 dX2_readClause_205 rfl rfl ?_
  refine g_iconst (0) 207 dX2_readClause_206 rfl rfl ?_
  refine g_callV (mc1 := 0) (ms1 := 0) (b := (a0 + 2)) (rest := []) (av := [.int (0), .int (0)]) kX6_put 210 dX2_readClause_207 rfl rfl mbX2_124 imX6_put seX6_put gcl6.1 s0.2.2.2.2.1.1 (Nat.le_of_ble_eq_true rfl) (Nat.zero_le _) (Nat.zero_le _) (uX6_put (N := N) (K := K) s0.2.2.2.2.1 H (fun v1 M1 jj H => ?_))
  have j1 : Sm M M1 := jj
  show Go X (d + K + 4) mc ms kX2_readClause Q 210 [(0, .ref a0), (1, .int (x1))] [.int (v1)] M1 0 0
  refine g_pop 211 dX2_readClause_210 rfl rfl ?_
  refine g_aload_n 0 212 dX2_readClause_211 rfl rfl ?_
  refine g_getR 215 (a0 + 2) dX2_readClause_212 rfl flX2_20 (Sm.k j1 s0.1) (Sm.r j1 s0.2.2.2.1) ?_
  refine g_iload_n 1 216 dX2_readClause_215 rfl rfl ?_
  refine g_iconst (1) 217 dX2_readClause_216 rfl rfl ?_
  refine g_iadd 218 dX2_readClause_217 rfl ?_
  refine g_putI 221 dX2_readClause_218 rfl flX2_139 (Sm.k j1 s0.2.2.2.2.1.1) ?_
  generalize hM2 : (g_wi M1 (a0 + 2) 6 (x1 + 1)) = M2
  have j2 : Sm M M2 := by rw [← hM2]; exact (Sm.wi j1)
  replace H := H M2 hM2.symm
  refine g_iconst (1) 222 dX2_readClause_221 rfl rfl ?_
  exact g_zret dX2_readClause_222 rfl (by decide) (Nat.zero_le _) (Nat.zero_le _) (hR _ _ j2 H)
set_option maxRecDepth 10000 in
theorem uxX2_readClause_144 {N K : Nat} {X : gX} {d mc ms : Nat} {Q : Option Value → gM → Prop} {R : Int32 → gM → Prop} {M : gM} {a0 : Nat} {x1 : Int32} (s0 : Re M a0) (H : pX2_readClause_144 N K R M a0 x1) (hR : ∀ (v : Int32) (M1 : gM), Sm M M1 → R v M1 → Q (some (.int v)) M1) : Go X (d + K + 4) mc ms kX2_readClause Q 144 [(0, .ref a0), (1, .int (x1))] [] M 0 0 := by
  unfold pX2_readClause_144 at H
  refine g_aload_n 0 145 dX2_readClause_144 rfl rfl ?_
  refine g_getR 148 (a0 + 2) dX2_readClause_145 rfl flX2_20 s0.1 s0.2.2.2.1 ?_
  refine g_getR 151 ((a0 + 2) + 4) dX2_readClause_148 rfl flX2_133 s0.2.2.2.2.1.1 s0.2.2.2.2.1.2.2.2.2.2.2.2.1 ?_
  refine g_iload_n 1 152 dX2_readClause_151 rfl rfl ?_
  refine g_aload_n 0 153 dX2_readClause_152 rfl rfl ?_
  refine g_getR 156 (a0 + 2) dX2_readClause_153 rfl flX2_20 s0.1 s0.2.2.2.1 ?_
  refine g_getI 159 dX2_readClause_156 rfl flX2_123 s0.2.2.2.2.1.1 ?_
  obtain ⟨b1, H⟩ := H
  refine h_iastore 160 (x1).toNatClampNeg dX2_readClause_159 rfl rfl s0.2.2.2.2.1.2.2.2.2.2.2.2.2.1 b1 ?_
  generalize hM1 : (g_wi M ((a0 + 2) + 4) (x1).toNatClampNeg (g_mi M (a0 + 2) 7)) = M1
  have j1 : Sm M M1 := by rw [← hM1]; exact (Sm.wi Sm.rf)
  replace H := H M1 hM1.symm
  refine g_aload_n 0 161 dX2_readClause_160 rfl rfl ?_
  refine g_getR 164 (a0 + 11) dX2_readClause_161 rfl flX2_35 (Sm.k j1 s0.1) (Sm.r j1 s0.2.2.2.2.2.2.2.2.2.1) ?_
  refine g_aload_n 0 165 dX2_readClause_164 rfl rfl ?_
  refine g_getI 168 dX2_readClause_165 rfl flX2_50 (Sm.k j1 s0.1) ?_
  obtain ⟨b2, H⟩ := H
  refine h_iaload 169 ((g_mi M1 a0 10)).toNatClampNeg dX2_readClause_168 rfl rfl (Sm.k j1 s0.2.2.2.2.2.2.2.2.2.2.1) b2 ?_
  refine g_bipush (18) 171 dX2_readClause_169 rfl rfl ?_
  refine g_icmp_eq 187 174 dX2_readClause_171 rfl rfl (fun c1 => ?_) (fun c1 => ?_)
  · skip
    replace H := H.1 c1
    refine g_aload_n 0 188 dX2_readClause_187 rfl rfl ?_
    refine g_callV (mc1 := 0) (ms1 := 0) (b := a0) (rest := []) (av := []) kX2_pass 191 dX2_readClause_188 rfl rfl mbX2_111 imX2_pass seX2_pass gcl2.1 (Sm.k j1 s0.1) (Nat.le_of_ble_eq_true rfl) (Nat.zero_le _) (Nat.zero_le _) (uX2_pass (N := N) (K := K) (Re.sm j1 s0) H (fun M2 jj H => ?_))
    have j2 : Sm M M2 := Sm.tr j1 jj
    show Go X (d + K + 4) mc ms kX2_readClause Q 191 [(0, .ref a0), (1, .int (x1))] [] M2 0 0
    refine g_aload_n 0 192 dX2_readClause_191 rfl rfl ?_
    refine g_iconst (0) 193 dX2_readClause_192 rfl rfl ?_
    refine g_callV (mc1 := 0) (ms1 := 0) (b := a0) (rest := []) (av := [.int (0)]) kX2_readTest 196 dX2_readClause_193 rfl rfl mbX2_136 imX2_readTest seX2_readTest gcl2.1 (Sm.k j2 s0.1) (Nat.le_of_ble_eq_true rfl) (Nat.zero_le _) (Nat.zero_le _) (uX2_readTest (N := N) (K := K) (Re.sm j2 s0) H (fun v1 M3 jj H => ?_))
    have j3 : Sm M M3 := Sm.tr j2 jj
    show Go X (d + K + 4) mc ms kX2_readClause Q 196 [(0, .ref a0), (1, .int (x1))] [.int (v1)] M3 0 0
    refine g_if_ne 201 199 dX2_readClause_196 rfl rfl (fun c2 => ?_) (fun c2 => ?_)
    · skip
      replace H := H.1 c2
      exact uxX2_readClause_201 (N := N) (K := K) (Re.sm j3 s0) H (fun v M1 j r => hR v M1 (Sm.tr j3 j) r)
    · skip
      replace H := H.2 c2
      refine g_iconst (0) 200 dX2_readClause_199 rfl rfl ?_
      exact g_zret dX2_readClause_200 rfl (by decide) (Nat.zero_le _) (Nat.zero_le _) (hR _ _ j3 H)
  · skip
    replace H := H.2 c1
    refine g_aload_n 0 175 dX2_readClause_174 rfl rfl ?_
    refine g_getR 178 (a0 + 2) dX2_readClause_175 rfl flX2_20 (Sm.k j1 s0.1) (Sm.r j1 s0.2.2.2.1) ?_
    refine g_iconst (1) 179 dX2_readClause_178 rfl rfl ?_
    refine g_iconst (1) 180 dX2_readClause_179 rfl rfl ?_
    refine g_callV (mc1 := 0) (ms1 := 0) (b := (a0 + 2)) (rest := []) (av := [.int (1), .int (1)]) kX6_put 183 dX2_readClause_180 rfl rfl mbX2_124 imX6_put seX6_put gcl6.1 (Sm.k j1 s0.2.2.2.2.1.1) (Nat.le_of_ble_eq_true rfl) (Nat.zero_le _) (Nat.zero_le _) (uX6_put (N := N) (K := K) (Tx.sm j1 s0.2.2.2.2.1) H (fun v2 M4 jj H => ?_))
    have j4 : Sm M M4 := Sm.tr j1 jj
    show Go X (d + K + 4) mc ms kX2_readClause Q 183 [(0, .ref a0), (1, .int (x1))] [.int (v2)] M4 0 0
    refine g_pop 184 dX2_readClause_183 rfl rfl ?_
    refine g_goto 201 dX2_readClause_184 rfl ?_
    exact uxX2_readClause_201 (N := N) (K := K) (Re.sm j4 s0) H (fun v M1 j r => hR v M1 (Sm.tr j4 j) r)
set_option maxRecDepth 10000 in
theorem uxX2_readClause_103 {N K : Nat} {X : gX} {d mc ms : Nat} {Q : Option Value → gM → Prop} {R : Int32 → gM → Prop} {M : gM} {a0 : Nat} {x1 : Int32} (s0 : Re M a0) (H : pX2_readClause_103 N K R M a0 x1) (hR : ∀ (v : Int32) (M1 : gM), Sm M M1 → R v M1 → Q (some (.int v)) M1) : Go X (d + K + 4) mc ms kX2_readClause Q 103 [(0, .ref a0), (1, .int (x1))] [] M 0 0 := by
  unfold pX2_readClause_103 at H
  refine g_aload_n 0 104 dX2_readClause_103 rfl rfl ?_
  refine g_getR 107 (a0 + 2) dX2_readClause_104 rfl flX2_20 s0.1 s0.2.2.2.1 ?_
  refine g_iconst (0) 108 dX2_readClause_107 rfl rfl ?_
  refine g_iconst (0) 109 dX2_readClause_108 rfl rfl ?_
  refine g_callV (mc1 := 0) (ms1 := 0) (b := (a0 + 2)) (rest := []) (av := [.int (0), .int (0)]) kX6_put 112 dX2_readClause_109 rfl rfl mbX2_124 imX6_put seX6_put gcl6.1 s0.2.2.2.2.1.1 (Nat.le_of_ble_eq_true rfl) (Nat.zero_le _) (Nat.zero_le _) (uX6_put (N := N) (K := K) s0.2.2.2.2.1 H (fun v1 M1 jj H => ?_))
  have j1 : Sm M M1 := jj
  show Go X (d + K + 4) mc ms kX2_readClause Q 112 [(0, .ref a0), (1, .int (x1))] [.int (v1)] M1 0 0
  refine g_pop 113 dX2_readClause_112 rfl rfl ?_
  refine g_aload_n 0 114 dX2_readClause_113 rfl rfl ?_
  refine g_getI 117 dX2_readClause_114 rfl flX2_59 (Sm.k j1 s0.1) ?_
  refine g_if_eq 144 120 dX2_readClause_117 rfl rfl (fun c1 => ?_) (fun c1 => ?_)
  · skip
    replace H := H.1 c1
    exact uxX2_readClause_144 (N := N) (K := K) (Re.sm j1 s0) H (fun v M1 j r => hR v M1 (Sm.tr j1 j) r)
  · skip
    replace H := H.2 c1
    refine g_aload_n 0 121 dX2_readClause_120 rfl rfl ?_
    refine g_getR 124 (a0 + 11) dX2_readClause_121 rfl flX2_35 (Sm.k j1 s0.1) (Sm.r j1 s0.2.2.2.2.2.2.2.2.2.1) ?_
    refine g_aload_n 0 125 dX2_readClause_124 rfl rfl ?_
    refine g_getI 128 dX2_readClause_125 rfl flX2_50 (Sm.k j1 s0.1) ?_
    obtain ⟨b1, H⟩ := H
    refine h_iaload 129 ((g_mi M1 a0 10)).toNatClampNeg dX2_readClause_128 rfl rfl (Sm.k j1 s0.2.2.2.2.2.2.2.2.2.2.1) b1 ?_
    refine g_bipush (17) 131 dX2_readClause_129 rfl rfl ?_
    refine g_icmp_ne 144 134 dX2_readClause_131 rfl rfl (fun c2 => ?_) (fun c2 => ?_)
    · skip
      replace H := H.1 c2
      exact uxX2_readClause_144 (N := N) (K := K) (Re.sm j1 s0) H (fun v M1 j r => hR v M1 (Sm.tr j1 j) r)
    · skip
      replace H := H.2 c2
      refine g_aload_n 0 135 dX2_readClause_134 rfl rfl ?_
      refine g_iload_n 1 136 dX2_readClause_135 rfl rfl ?_
      refine g_callV (mc1 := 0) (ms1 := 0) (b := a0) (rest := []) (av := [.int (x1)]) kX2_readTimes 139 dX2_readClause_136 rfl rfl mbX2_130 imX2_readTimes seX2_readTimes gcl2.1 (Sm.k j1 s0.1) (Nat.le_of_ble_eq_true rfl) (Nat.zero_le _) (Nat.zero_le _) (uX2_readTimes (N := N) (K := K) (Re.sm j1 s0) H (fun v2 M2 jj H => ?_))
      have j2 : Sm M M2 := Sm.tr j1 jj
      show Go X (d + K + 4) mc ms kX2_readClause Q 139 [(0, .ref a0), (1, .int (x1))] [.int (v2)] M2 0 0
      refine g_if_ne 144 142 dX2_readClause_139 rfl rfl (fun c3 => ?_) (fun c3 => ?_)
      · skip
        replace H := H.1 c3
        exact uxX2_readClause_144 (N := N) (K := K) (Re.sm j2 s0) H (fun v M1 j r => hR v M1 (Sm.tr j2 j) r)
      · skip
        replace H := H.2 c3
        refine g_iconst (0) 143 dX2_readClause_142 rfl rfl ?_
        exact g_zret dX2_readClause_143 rfl (by decide) (Nat.zero_le _) (Nat.zero_le _) (hR _ _ j2 H)
set_option maxRecDepth 10000 in
theorem uxX2_readClause_80 {N K : Nat} {X : gX} {d mc ms : Nat} {Q : Option Value → gM → Prop} {R : Int32 → gM → Prop} {M : gM} {a0 : Nat} {x1 : Int32} (s0 : Re M a0) (H : pX2_readClause_80 N K R M a0 x1) (hR : ∀ (v : Int32) (M1 : gM), Sm M M1 → R v M1 → Q (some (.int v)) M1) : Go X (d + K + 4) mc ms kX2_readClause Q 80 [(0, .ref a0), (1, .int (x1))] [] M 0 0 := by
  unfold pX2_readClause_80 at H
  refine g_aload_n 0 81 dX2_readClause_80 rfl rfl ?_
  refine g_getR 84 (a0 + 2) dX2_readClause_81 rfl flX2_20 s0.1 s0.2.2.2.1 ?_
  refine g_iconst (1) 85 dX2_readClause_84 rfl rfl ?_
  refine g_iconst (0) 86 dX2_readClause_85 rfl rfl ?_
  refine g_callV (mc1 := 0) (ms1 := 0) (b := (a0 + 2)) (rest := []) (av := [.int (1), .int (0)]) kX6_put 89 dX2_readClause_86 rfl rfl mbX2_124 imX6_put seX6_put gcl6.1 s0.2.2.2.2.1.1 (Nat.le_of_ble_eq_true rfl) (Nat.zero_le _) (Nat.zero_le _) (uX6_put (N := N) (K := K) s0.2.2.2.2.1 H (fun v1 M1 jj H => ?_))
  have j1 : Sm M M1 := jj
  show Go X (d + K + 4) mc ms kX2_readClause Q 89 [(0, .ref a0), (1, .int (x1))] [.int (v1)] M1 0 0
  refine g_pop 90 dX2_readClause_89 rfl rfl ?_
  refine g_goto 103 dX2_readClause_90 rfl ?_
  exact uxX2_readClause_103 (N := N) (K := K) (Re.sm j1 s0) H (fun v M1 j r => hR v M1 (Sm.tr j1 j) r)
set_option maxRecDepth 10000 in
theorem uX2_readClause {N K : Nat} {X : gX} {d mc ms : Nat} {Q : Option Value → gM → Prop} {M : gM} {a0 : Nat} {x1 : Int32} {R : Int32 → gM → Prop} (s0 : Re M a0) (H : pX2_readClause N K M a0 x1 R) (hR : ∀ (v : Int32) (M1 : gM), Sm M M1 → R v M1 → Q (some (.int v)) M1) : Cn X (d + K + 4) mc ms kX2_readClause [.ref a0, .int (x1)] M Q := by
  unfold pX2_readClause at H
  refine g_meth rfl rfl (Nat.le_of_ble_eq_true rfl) rfl ?_
  refine g_aload_n 0 1 dX2_readClause_0 rfl rfl ?_
  refine g_getI 4 dX2_readClause_1 rfl flX2_59 s0.1 ?_
  refine g_if_eq 14 7 dX2_readClause_4 rfl rfl (fun c1 => ?_) (fun c1 => ?_)
  · skip
    replace H := H.1 c1
    refine g_aload_n 0 15 dX2_readClause_14 rfl rfl ?_
    obtain ⟨b1, H⟩ := H
    refine g_callV (mc1 := 0) (ms1 := 0) (b := a0) (rest := []) (av := []) kX2_lawKind 18 dX2_readClause_15 rfl rfl mbX2_108 imX2_lawKind seX2_lawKind gcl2.1 s0.1 (Nat.le_of_ble_eq_true rfl) (Nat.zero_le _) (Nat.zero_le _) (tX2_lawKind s0 b1 ?_)
    show Go X (d + K + 4) mc ms kX2_readClause Q 18 [(0, .ref a0), (1, .int (x1))] [.int ((fX2_lawKind M a0))] M 0 0
    generalize hv1 : (fX2_lawKind M a0) = v1
    replace H := H v1 hv1.symm
    refine g_istore_n 19 [(2, .int (v1)), (0, .ref a0), (1, .int (x1))] dX2_readClause_18 rfl (Nat.le_of_ble_eq_true rfl) rfl ?_
    refine g_iload_n 0 20 dX2_readClause_19 rfl rfl ?_
    refine g_iconst ((-1)) 21 dX2_readClause_20 rfl rfl ?_
    refine g_icmp_ne 29 24 dX2_readClause_21 rfl rfl (fun c2 => ?_) (fun c2 => ?_)
    · skip
      replace H := H.1 c2
      refine g_aload_n 1 30 dX2_readClause_29 rfl rfl ?_
      refine g_callV (mc1 := 0) (ms1 := 0) (b := a0) (rest := []) (av := []) kX2_pass 33 dX2_readClause_30 rfl rfl mbX2_111 imX2_pass seX2_pass gcl2.1 s0.1 (Nat.le_of_ble_eq_true rfl) (Nat.zero_le _) (Nat.zero_le _) (uX2_pass (N := N) (K := K) s0 H (fun M1 jj H => ?_))
      have j1 : Sm M M1 := jj
      show Go X (d + K + 4) mc ms kX2_readClause Q 33 [(2, .int (v1)), (0, .ref a0), (1, .int (x1))] [] M1 0 0
      refine g_aload_n 1 34 dX2_readClause_33 rfl rfl ?_
      refine g_getR 37 (a0 + 2) dX2_readClause_34 rfl flX2_20 (Sm.k j1 s0.1) (Sm.r j1 s0.2.2.2.1) ?_
      refine g_getR 40 ((a0 + 2) + 1) dX2_readClause_37 rfl flX2_114 (Sm.k j1 s0.2.2.2.2.1.1) (Sm.r j1 s0.2.2.2.2.1.2.1) ?_
      refine g_iload_n 2 41 dX2_readClause_40 rfl rfl ?_
      refine g_iload_n 0 42 dX2_readClause_41 rfl rfl ?_
      obtain ⟨b2, H⟩ := H
      refine h_iastore 43 (x1).toNatClampNeg dX2_readClause_42 rfl rfl (Sm.k j1 s0.2.2.2.2.1.2.2.1) b2 ?_
      generalize hM2 : (g_wi M1 ((a0 + 2) + 1) (x1).toNatClampNeg v1) = M2
      have j2 : Sm M M2 := by rw [← hM2]; exact (Sm.wi j1)
      replace H := H M2 hM2.symm
      refine g_aload_n 1 44 dX2_readClause_43 rfl rfl ?_
      refine g_getR 47 (a0 + 2) dX2_readClause_44 rfl flX2_20 (Sm.k j2 s0.1) (Sm.r j2 s0.2.2.2.1) ?_
      refine g_getR 50 ((a0 + 2) + 2) dX2_readClause_47 rfl flX2_117 (Sm.k j2 s0.2.2.2.2.1.1) (Sm.r j2 s0.2.2.2.2.1.2.2.2.1) ?_
      refine g_iload_n 2 51 dX2_readClause_50 rfl rfl ?_
      refine g_iconst (1) 52 dX2_readClause_51 rfl rfl ?_
      obtain ⟨b3, H⟩ := H
      refine h_iastore 53 (x1).toNatClampNeg dX2_readClause_52 rfl rfl (Sm.k j2 s0.2.2.2.2.1.2.2.2.2.1) b3 ?_
      generalize hM3 : (g_wi M2 ((a0 + 2) + 2) (x1).toNatClampNeg 1) = M3
      have j3 : Sm M M3 := by rw [← hM3]; exact (Sm.wi j2)
      replace H := H M3 hM3.symm
      refine g_aload_n 1 54 dX2_readClause_53 rfl rfl ?_
      refine g_getR 57 (a0 + 2) dX2_readClause_54 rfl flX2_20 (Sm.k j3 s0.1) (Sm.r j3 s0.2.2.2.1) ?_
      refine g_getR 60 ((a0 + 2) + 3) dX2_readClause_57 rfl flX2_120 (Sm.k j3 s0.2.2.2.2.1.1) (Sm.r j3 s0.2.2.2.2.1.2.2.2.2.2.1) ?_
      refine g_iload_n 2 61 dX2_readClause_60 rfl rfl ?_
      refine g_aload_n 1 62 dX2_readClause_61 rfl rfl ?_
      refine g_getR 65 (a0 + 2) dX2_readClause_62 rfl flX2_20 (Sm.k j3 s0.1) (Sm.r j3 s0.2.2.2.1) ?_
      refine g_getI 68 dX2_readClause_65 rfl flX2_123 (Sm.k j3 s0.2.2.2.2.1.1) ?_
      obtain ⟨b4, H⟩ := H
      refine h_iastore 69 (x1).toNatClampNeg dX2_readClause_68 rfl rfl (Sm.k j3 s0.2.2.2.2.1.2.2.2.2.2.2.1) b4 ?_
      generalize hM4 : (g_wi M3 ((a0 + 2) + 3) (x1).toNatClampNeg (g_mi M3 (a0 + 2) 7)) = M4
      have j4 : Sm M M4 := by rw [← hM4]; exact (Sm.wi j3)
      replace H := H M4 hM4.symm
      refine g_iload_n 0 70 dX2_readClause_69 rfl rfl ?_
      refine g_iconst (4) 71 dX2_readClause_70 rfl rfl ?_
      refine g_icmp_eq 80 74 dX2_readClause_71 rfl rfl (fun c3 => ?_) (fun c3 => ?_)
      · skip
        replace H := H.1 c3
        exact g_sub [1, 2] _ rfl (uxX2_readClause_80 (N := N) (K := K) (Re.sm j4 s0) H (fun v M1 j r => hR v M1 (Sm.tr j4 j) r))
      · skip
        replace H := H.2 c3
        refine g_iload_n 0 75 dX2_readClause_74 rfl rfl ?_
        refine g_bipush (6) 77 dX2_readClause_75 rfl rfl ?_
        refine g_icmp_ne 93 80 dX2_readClause_77 rfl rfl (fun c4 => ?_) (fun c4 => ?_)
        · skip
          replace H := H.1 c4
          refine g_aload_n 1 94 dX2_readClause_93 rfl rfl ?_
          refine g_iconst (0) 95 dX2_readClause_94 rfl rfl ?_
          refine g_callV (mc1 := 0) (ms1 := 0) (b := a0) (rest := []) (av := [.int (0)]) kX2_readSum 98 dX2_readClause_95 rfl rfl mbX2_127 imX2_readSum seX2_readSum gcl2.1 (Sm.k j4 s0.1) (Nat.le_of_ble_eq_true rfl) (Nat.zero_le _) (Nat.zero_le _) (uX2_readSum (N := N) (K := K) (Re.sm j4 s0) H (fun v2 M5 jj H => ?_))
          have j5 : Sm M M5 := Sm.tr j4 jj
          show Go X (d + K + 4) mc ms kX2_readClause Q 98 [(2, .int (v1)), (0, .ref a0), (1, .int (x1))] [.int (v2)] M5 0 0
          refine g_if_ne 103 101 dX2_readClause_98 rfl rfl (fun c5 => ?_) (fun c5 => ?_)
          · skip
            replace H := H.1 c5
            exact g_sub [1, 2] _ rfl (uxX2_readClause_103 (N := N) (K := K) (Re.sm j5 s0) H (fun v M1 j r => hR v M1 (Sm.tr j5 j) r))
          · skip
            replace H := H.2 c5
            refine g_iconst (0) 102 dX2_readClause_101 rfl rfl ?_
            exact g_zret dX2_readClause_102 rfl (by decide) (Nat.zero_le _) (Nat.zero_le _) (hR _ _ j5 H)
        · skip
          replace H := H.2 c4
          exact g_sub [1, 2] _ rfl (uxX2_readClause_80 (N := N) (K := K) (Re.sm j4 s0) H (fun v M1 j r => hR v M1 (Sm.tr j4 j) r))
    · skip
      replace H := H.2 c2
      refine g_aload_n 1 25 dX2_readClause_24 rfl rfl ?_
      refine g_callV (mc1 := 0) (ms1 := 0) (b := a0) (rest := []) (av := []) kX2_fail 28 dX2_readClause_25 rfl rfl mbX2_74 imX2_fail seX2_fail gcl2.1 s0.1 (Nat.le_of_ble_eq_true rfl) (Nat.zero_le _) (Nat.zero_le _) (uX2_fail (N := N) (K := K) s0 H (fun v3 M6 jj H => ?_))
      have j6 : Sm M M6 := jj
      show Go X (d + K + 4) mc ms kX2_readClause Q 28 [(2, .int (v1)), (0, .ref a0), (1, .int (x1))] [.int (v3)] M6 0 0
      obtain ⟨b5, H⟩ := H
      exact g_zret dX2_readClause_28 rfl b5 (Nat.zero_le _) (Nat.zero_le _) (hR _ _ j6 H)
  · skip
    replace H := H.2 c1
    refine g_aload_n 0 8 dX2_readClause_7 rfl rfl ?_
    obtain ⟨b6, H⟩ := H
    refine g_callV (mc1 := 0) (ms1 := 0) (b := a0) (rest := []) (av := []) kX2_orderKind 11 dX2_readClause_8 rfl rfl mbX2_105 imX2_orderKind seX2_orderKind gcl2.1 s0.1 (Nat.le_of_ble_eq_true rfl) (Nat.zero_le _) (Nat.zero_le _) (tX2_orderKind s0 b6 ?_)
    show Go X (d + K + 4) mc ms kX2_readClause Q 11 [(0, .ref a0), (1, .int (x1))] [.int ((fX2_orderKind M a0))] M 0 0
    generalize hv4 : (fX2_orderKind M a0) = v4
    replace H := H v4 hv4.symm
    refine g_goto 18 dX2_readClause_11 rfl ?_
    refine g_istore_n 19 [(2, .int (v4)), (0, .ref a0), (1, .int (x1))] dX2_readClause_18 rfl (Nat.le_of_ble_eq_true rfl) rfl ?_
    refine g_iload_n 0 20 dX2_readClause_19 rfl rfl ?_
    refine g_iconst ((-1)) 21 dX2_readClause_20 rfl rfl ?_
    refine g_icmp_ne 29 24 dX2_readClause_21 rfl rfl (fun c6 => ?_) (fun c6 => ?_)
    · skip
      replace H := H.1 c6
      refine g_aload_n 1 30 dX2_readClause_29 rfl rfl ?_
      refine g_callV (mc1 := 0) (ms1 := 0) (b := a0) (rest := []) (av := []) kX2_pass 33 dX2_readClause_30 rfl rfl mbX2_111 imX2_pass seX2_pass gcl2.1 s0.1 (Nat.le_of_ble_eq_true rfl) (Nat.zero_le _) (Nat.zero_le _) (uX2_pass (N := N) (K := K) s0 H (fun M7 jj H => ?_))
      have j7 : Sm M M7 := jj
      show Go X (d + K + 4) mc ms kX2_readClause Q 33 [(2, .int (v4)), (0, .ref a0), (1, .int (x1))] [] M7 0 0
      refine g_aload_n 1 34 dX2_readClause_33 rfl rfl ?_
      refine g_getR 37 (a0 + 2) dX2_readClause_34 rfl flX2_20 (Sm.k j7 s0.1) (Sm.r j7 s0.2.2.2.1) ?_
      refine g_getR 40 ((a0 + 2) + 1) dX2_readClause_37 rfl flX2_114 (Sm.k j7 s0.2.2.2.2.1.1) (Sm.r j7 s0.2.2.2.2.1.2.1) ?_
      refine g_iload_n 2 41 dX2_readClause_40 rfl rfl ?_
      refine g_iload_n 0 42 dX2_readClause_41 rfl rfl ?_
      obtain ⟨b7, H⟩ := H
      refine h_iastore 43 (x1).toNatClampNeg dX2_readClause_42 rfl rfl (Sm.k j7 s0.2.2.2.2.1.2.2.1) b7 ?_
      generalize hM8 : (g_wi M7 ((a0 + 2) + 1) (x1).toNatClampNeg v4) = M8
      have j8 : Sm M M8 := by rw [← hM8]; exact (Sm.wi j7)
      replace H := H M8 hM8.symm
      refine g_aload_n 1 44 dX2_readClause_43 rfl rfl ?_
      refine g_getR 47 (a0 + 2) dX2_readClause_44 rfl flX2_20 (Sm.k j8 s0.1) (Sm.r j8 s0.2.2.2.1) ?_
      refine g_getR 50 ((a0 + 2) + 2) dX2_readClause_47 rfl flX2_117 (Sm.k j8 s0.2.2.2.2.1.1) (Sm.r j8 s0.2.2.2.2.1.2.2.2.1) ?_
      refine g_iload_n 2 51 dX2_readClause_50 rfl rfl ?_
      refine g_iconst (1) 52 dX2_readClause_51 rfl rfl ?_
      obtain ⟨b8, H⟩ := H
      refine h_iastore 53 (x1).toNatClampNeg dX2_readClause_52 rfl rfl (Sm.k j8 s0.2.2.2.2.1.2.2.2.2.1) b8 ?_
      generalize hM9 : (g_wi M8 ((a0 + 2) + 2) (x1).toNatClampNeg 1) = M9
      have j9 : Sm M M9 := by rw [← hM9]; exact (Sm.wi j8)
      replace H := H M9 hM9.symm
      refine g_aload_n 1 54 dX2_readClause_53 rfl rfl ?_
      refine g_getR 57 (a0 + 2) dX2_readClause_54 rfl flX2_20 (Sm.k j9 s0.1) (Sm.r j9 s0.2.2.2.1) ?_
      refine g_getR 60 ((a0 + 2) + 3) dX2_readClause_57 rfl flX2_120 (Sm.k j9 s0.2.2.2.2.1.1) (Sm.r j9 s0.2.2.2.2.1.2.2.2.2.2.1) ?_
      refine g_iload_n 2 61 dX2_readClause_60 rfl rfl ?_
      refine g_aload_n 1 62 dX2_readClause_61 rfl rfl ?_
      refine g_getR 65 (a0 + 2) dX2_readClause_62 rfl flX2_20 (Sm.k j9 s0.1) (Sm.r j9 s0.2.2.2.1) ?_
      refine g_getI 68 dX2_readClause_65 rfl flX2_123 (Sm.k j9 s0.2.2.2.2.1.1) ?_
      obtain ⟨b9, H⟩ := H
      refine h_iastore 69 (x1).toNatClampNeg dX2_readClause_68 rfl rfl (Sm.k j9 s0.2.2.2.2.1.2.2.2.2.2.2.1) b9 ?_
      generalize hM10 : (g_wi M9 ((a0 + 2) + 3) (x1).toNatClampNeg (g_mi M9 (a0 + 2) 7)) = M10
      have j10 : Sm M M10 := by rw [← hM10]; exact (Sm.wi j9)
      replace H := H M10 hM10.symm
      refine g_iload_n 0 70 dX2_readClause_69 rfl rfl ?_
      refine g_iconst (4) 71 dX2_readClause_70 rfl rfl ?_
      refine g_icmp_eq 80 74 dX2_readClause_71 rfl rfl (fun c7 => ?_) (fun c7 => ?_)
      · skip
        replace H := H.1 c7
        exact g_sub [1, 2] _ rfl (uxX2_readClause_80 (N := N) (K := K) (Re.sm j10 s0) H (fun v M1 j r => hR v M1 (Sm.tr j10 j) r))
      · skip
        replace H := H.2 c7
        refine g_iload_n 0 75 dX2_readClause_74 rfl rfl ?_
        refine g_bipush (6) 77 dX2_readClause_75 rfl rfl ?_
        refine g_icmp_ne 93 80 dX2_readClause_77 rfl rfl (fun c8 => ?_) (fun c8 => ?_)
        · skip
          replace H := H.1 c8
          refine g_aload_n 1 94 dX2_readClause_93 rfl rfl ?_
          refine g_iconst (0) 95 dX2_readClause_94 rfl rfl ?_
          refine g_callV (mc1 := 0) (ms1 := 0) (b := a0) (rest := []) (av := [.int (0)]) kX2_readSum 98 dX2_readClause_95 rfl rfl mbX2_127 imX2_readSum seX2_readSum gcl2.1 (Sm.k j10 s0.1) (Nat.le_of_ble_eq_true rfl) (Nat.zero_le _) (Nat.zero_le _) (uX2_readSum (N := N) (K := K) (Re.sm j10 s0) H (fun v5 M11 jj H => ?_))
          have j11 : Sm M M11 := Sm.tr j10 jj
          show Go X (d + K + 4) mc ms kX2_readClause Q 98 [(2, .int (v4)), (0, .ref a0), (1, .int (x1))] [.int (v5)] M11 0 0
          refine g_if_ne 103 101 dX2_readClause_98 rfl rfl (fun c9 => ?_) (fun c9 => ?_)
          · skip
            replace H := H.1 c9
            exact g_sub [1, 2] _ rfl (uxX2_readClause_103 (N := N) (K := K) (Re.sm j11 s0) H (fun v M1 j r => hR v M1 (Sm.tr j11 j) r))
          · skip
            replace H := H.2 c9
            refine g_iconst (0) 102 dX2_readClause_101 rfl rfl ?_
            exact g_zret dX2_readClause_102 rfl (by decide) (Nat.zero_le _) (Nat.zero_le _) (hR _ _ j11 H)
        · skip
          replace H := H.2 c8
          exact g_sub [1, 2] _ rfl (uxX2_readClause_80 (N := N) (K := K) (Re.sm j10 s0) H (fun v M1 j r => hR v M1 (Sm.tr j10 j) r))
    · skip
      replace H := H.2 c6
      refine g_aload_n 1 25 dX2_readClause_24 rfl rfl ?_
      refine g_callV (mc1 := 0) (ms1 := 0) (b := a0) (rest := []) (av := []) kX2_fail 28 dX2_readClause_25 rfl rfl mbX2_74 imX2_fail seX2_fail gcl2.1 s0.1 (Nat.le_of_ble_eq_true rfl) (Nat.zero_le _) (Nat.zero_le _) (uX2_fail (N := N) (K := K) s0 H (fun v6 M12 jj H => ?_))
      have j12 : Sm M M12 := jj
      show Go X (d + K + 4) mc ms kX2_readClause Q 28 [(2, .int (v4)), (0, .ref a0), (1, .int (x1))] [.int (v6)] M12 0 0
      obtain ⟨b10, H⟩ := H
      exact g_zret dX2_readClause_28 rfl b10 (Nat.zero_le _) (Nat.zero_le _) (hR _ _ j12 H)
/-! X9_readClause -/
def pX9_readClause (N K : Nat) (M : gM) (a0 : Nat) (R : gM → Prop) : Prop := pX9_takes0 N K M a0 1 (fun v1 M1 => ((v1 = 0 → pX9_must N K M1 a0 2 (fun M2 => pX9_takes0 N K M2 a0 3 (fun v2 M3 => ((v2 = 0 → R M3) ∧ (¬ v2 = 0 → pX9_readTest N K M3 a0 0 (fun M4 => R M4)))))) ∧ (¬ v1 = 0 → pX9_readSum N K M1 a0 0 (fun M5 => pX9_takes0 N K M5 a0 3 (fun v3 M6 => ((v3 = 0 → R M6) ∧ (¬ v3 = 0 → pX9_readTest N K M6 a0 0 (fun M7 => R M7))))))))
set_option maxRecDepth 10000 in
theorem uX9_readClause {N K : Nat} {X : gX} {d mc ms : Nat} {Q : Option Value → gM → Prop} {M : gM} {a0 : Nat} {R : gM → Prop} (s0 : Mo M a0) (H : pX9_readClause N K M a0 R) (hR : ∀ (M1 : gM), Sm M M1 → R M1 → Q none M1) : Cn X (d + K + 5) mc ms kX9_readClause [.ref a0] M Q := by
  unfold pX9_readClause at H
  refine g_meth rfl rfl (Nat.le_of_ble_eq_true rfl) rfl ?_
  refine g_aload_n 0 1 dX9_readClause_0 rfl rfl ?_
  refine g_iconst (1) 2 dX9_readClause_1 rfl rfl ?_
  refine g_callV (mc1 := 0) (ms1 := 0) (b := a0) (rest := []) (av := [.int (1)]) kX9_takes0 5 dX9_readClause_2 rfl rfl mbX9_189 imX9_takes0 seX9_takes0 gcl9.1 s0.1 (Nat.le_of_ble_eq_true rfl) (Nat.zero_le _) (Nat.zero_le _) (uX9_takes0 (N := N) (K := K) s0 H (fun v1 M1 jj H => ?_))
  have j1 : Sm M M1 := jj
  show Go X (d + K + 5) mc ms kX9_readClause Q 5 [(0, .ref a0)] [.int (v1)] M1 0 0
  refine g_if_eq 16 8 dX9_readClause_5 rfl rfl (fun c1 => ?_) (fun c1 => ?_)
  · skip
    replace H := H.1 c1
    refine g_aload_n 0 17 dX9_readClause_16 rfl rfl ?_
    refine g_iconst (2) 18 dX9_readClause_17 rfl rfl ?_
    refine g_callV (mc1 := 0) (ms1 := 0) (b := a0) (rest := []) (av := [.int (2)]) kX9_must 21 dX9_readClause_18 rfl rfl mbX9_202 imX9_must seX9_must gcl9.1 (Sm.k j1 s0.1) (Nat.le_of_ble_eq_true rfl) (Nat.zero_le _) (Nat.zero_le _) (uX9_must (N := N) (K := K) (Mo.sm j1 s0) H (fun M2 jj H => ?_))
    have j2 : Sm M M2 := Sm.tr j1 jj
    show Go X (d + K + 5) mc ms kX9_readClause Q 21 [(0, .ref a0)] [] M2 0 0
    refine g_aload_n 0 22 dX9_readClause_21 rfl rfl ?_
    refine g_iconst (3) 23 dX9_readClause_22 rfl rfl ?_
    refine g_callV (mc1 := 0) (ms1 := 0) (b := a0) (rest := []) (av := [.int (3)]) kX9_takes0 26 dX9_readClause_23 rfl rfl mbX9_189 imX9_takes0 seX9_takes0 gcl9.1 (Sm.k j2 s0.1) (Nat.le_of_ble_eq_true rfl) (Nat.zero_le _) (Nat.zero_le _) (uX9_takes0 (N := N) (K := K) (Mo.sm j2 s0) H (fun v2 M3 jj H => ?_))
    have j3 : Sm M M3 := Sm.tr j2 jj
    show Go X (d + K + 5) mc ms kX9_readClause Q 26 [(0, .ref a0)] [.int (v2)] M3 0 0
    refine g_if_eq 34 29 dX9_readClause_26 rfl rfl (fun c2 => ?_) (fun c2 => ?_)
    · skip
      replace H := H.1 c2
      exact g_vret dX9_readClause_34 rfl (Nat.zero_le _) (Nat.zero_le _) (hR _ j3 H)
    · skip
      replace H := H.2 c2
      refine g_aload_n 0 30 dX9_readClause_29 rfl rfl ?_
      refine g_iconst (0) 31 dX9_readClause_30 rfl rfl ?_
      refine g_callV (mc1 := 0) (ms1 := 0) (b := a0) (rest := []) (av := [.int (0)]) kX9_readTest 34 dX9_readClause_31 rfl rfl mbX9_205 imX9_readTest seX9_readTest gcl9.1 (Sm.k j3 s0.1) (Nat.le_of_ble_eq_true rfl) (Nat.zero_le _) (Nat.zero_le _) (uX9_readTest (N := N) (K := K) (Mo.sm j3 s0) H (fun M4 jj H => ?_))
      have j4 : Sm M M4 := Sm.tr j3 jj
      show Go X (d + K + 5) mc ms kX9_readClause Q 34 [(0, .ref a0)] [] M4 0 0
      exact g_vret dX9_readClause_34 rfl (Nat.zero_le _) (Nat.zero_le _) (hR _ j4 H)
  · skip
    replace H := H.2 c1
    refine g_aload_n 0 9 dX9_readClause_8 rfl rfl ?_
    refine g_iconst (0) 10 dX9_readClause_9 rfl rfl ?_
    refine g_callV (mc1 := 0) (ms1 := 0) (b := a0) (rest := []) (av := [.int (0)]) kX9_readSum 13 dX9_readClause_10 rfl rfl mbX9_198 imX9_readSum seX9_readSum gcl9.1 (Sm.k j1 s0.1) (Nat.le_of_ble_eq_true rfl) (Nat.zero_le _) (Nat.zero_le _) (uX9_readSum (N := N) (K := K) (Mo.sm j1 s0) H (fun M5 jj H => ?_))
    have j5 : Sm M M5 := Sm.tr j1 jj
    show Go X (d + K + 5) mc ms kX9_readClause Q 13 [(0, .ref a0)] [] M5 0 0
    refine g_goto 21 dX9_readClause_13 rfl ?_
    refine g_aload_n 0 22 dX9_readClause_21 rfl rfl ?_
    refine g_iconst (3) 23 dX9_readClause_22 rfl rfl ?_
    refine g_callV (mc1 := 0) (ms1 := 0) (b := a0) (rest := []) (av := [.int (3)]) kX9_takes0 26 dX9_readClause_23 rfl rfl mbX9_189 imX9_takes0 seX9_takes0 gcl9.1 (Sm.k j5 s0.1) (Nat.le_of_ble_eq_true rfl) (Nat.zero_le _) (Nat.zero_le _) (uX9_takes0 (N := N) (K := K) (Mo.sm j5 s0) H (fun v3 M6 jj H => ?_))
    have j6 : Sm M M6 := Sm.tr j5 jj
    show Go X (d + K + 5) mc ms kX9_readClause Q 26 [(0, .ref a0)] [.int (v3)] M6 0 0
    refine g_if_eq 34 29 dX9_readClause_26 rfl rfl (fun c3 => ?_) (fun c3 => ?_)
    · skip
      replace H := H.1 c3
      exact g_vret dX9_readClause_34 rfl (Nat.zero_le _) (Nat.zero_le _) (hR _ j6 H)
    · skip
      replace H := H.2 c3
      refine g_aload_n 0 30 dX9_readClause_29 rfl rfl ?_
      refine g_iconst (0) 31 dX9_readClause_30 rfl rfl ?_
      refine g_callV (mc1 := 0) (ms1 := 0) (b := a0) (rest := []) (av := [.int (0)]) kX9_readTest 34 dX9_readClause_31 rfl rfl mbX9_205 imX9_readTest seX9_readTest gcl9.1 (Sm.k j6 s0.1) (Nat.le_of_ble_eq_true rfl) (Nat.zero_le _) (Nat.zero_le _) (uX9_readTest (N := N) (K := K) (Mo.sm j6 s0) H (fun M7 jj H => ?_))
      have j7 : Sm M M7 := Sm.tr j6 jj
      show Go X (d + K + 5) mc ms kX9_readClause Q 34 [(0, .ref a0)] [] M7 0 0
      exact g_vret dX9_readClause_34 rfl (Nat.zero_le _) (Nat.zero_le _) (hR _ j7 H)
/-! X9_readOrder -/
def pX9_readOrder_79 (N K : Nat) (R : gM → Prop) (M : gM)  : Prop := R M
def pX9_readOrder_66 (N K : Nat) (R : gM → Prop) (M : gM) (a0 : Nat) : Prop := pX9_takes0 N K M a0 3 (fun v1 M1 => ((v1 = 0 → pX9_readOrder_79 N K R M1 ) ∧ (¬ v1 = 0 → pX9_readTest N K M1 a0 0 (fun M2 => pX9_readOrder_79 N K R M2 ))))
def pX9_readOrder_50 (N K : Nat) (R : gM → Prop) (M : gM) (a0 : Nat) : Prop := pX9_takes0 N K M a0 22 (fun v1 M1 => ((v1 = 0 → pX9_readOrder_66 N K R M1 a0) ∧ (¬ v1 = 0 → pX9_mustNumber N K M1 a0 1 20 (fun M2 => pX9_readOrder_66 N K R M2 a0))))
def pX9_readOrder_36 (N K : Nat) (R : gM → Prop) (M : gM) (a0 : Nat) : Prop := pX9_readSum N K M a0 0 (fun M1 => pX9_readOrder_50 N K R M1 a0)
def pX9_readOrder (N K : Nat) (M : gM) (a0 : Nat) (R : gM → Prop) : Prop := pX9_takes0 N K M a0 18 (fun v1 M1 => ((¬ v1 = 0 → pX9_readOrder_36 N K R M1 a0) ∧ (v1 = 0 → pX9_takes0 N K M1 a0 19 (fun v2 M2 => ((¬ v2 = 0 → pX9_readOrder_36 N K R M2 a0) ∧ (v2 = 0 → pX9_takes0 N K M2 a0 20 (fun v3 M3 => ((¬ v3 = 0 → pX9_readOrder_36 N K R M3 a0) ∧ (v3 = 0 → pX9_takes0 N K M3 a0 10 (fun v4 M4 => ((v4 = 0 → pX9_must N K M4 a0 21 (fun M5 => pX9_readOrder_50 N K R M5 a0)) ∧ (¬ v4 = 0 → pX9_readOrder_36 N K R M4 a0))))))))))))
set_option maxRecDepth 10000 in
theorem uxX9_readOrder_79 {N K : Nat} {X : gX} {d mc ms : Nat} {Q : Option Value → gM → Prop} {R : gM → Prop} {M : gM}   (H : pX9_readOrder_79 N K R M ) (hR : ∀ (M1 : gM), Sm M M1 → R M1 → Q none M1) : Go X (d + K + 5) mc ms kX9_readOrder Q 79 [] [] M 0 0 := by
  unfold pX9_readOrder_79 at H
  exact g_vret dX9_readOrder_79 rfl (Nat.zero_le _) (Nat.zero_le _) (hR _ Sm.rf H)
set_option maxRecDepth 10000 in
theorem uxX9_readOrder_66 {N K : Nat} {X : gX} {d mc ms : Nat} {Q : Option Value → gM → Prop} {R : gM → Prop} {M : gM} {a0 : Nat} (s0 : Mo M a0) (H : pX9_readOrder_66 N K R M a0) (hR : ∀ (M1 : gM), Sm M M1 → R M1 → Q none M1) : Go X (d + K + 5) mc ms kX9_readOrder Q 66 [(0, .ref a0)] [] M 0 0 := by
  unfold pX9_readOrder_66 at H
  refine g_aload_n 0 67 dX9_readOrder_66 rfl rfl ?_
  refine g_iconst (3) 68 dX9_readOrder_67 rfl rfl ?_
  refine g_callV (mc1 := 0) (ms1 := 0) (b := a0) (rest := []) (av := [.int (3)]) kX9_takes0 71 dX9_readOrder_68 rfl rfl mbX9_189 imX9_takes0 seX9_takes0 gcl9.1 s0.1 (Nat.le_of_ble_eq_true rfl) (Nat.zero_le _) (Nat.zero_le _) (uX9_takes0 (N := N) (K := K) s0 H (fun v1 M1 jj H => ?_))
  have j1 : Sm M M1 := jj
  show Go X (d + K + 5) mc ms kX9_readOrder Q 71 [(0, .ref a0)] [.int (v1)] M1 0 0
  refine g_if_eq 79 74 dX9_readOrder_71 rfl rfl (fun c1 => ?_) (fun c1 => ?_)
  · skip
    replace H := H.1 c1
    exact g_sub [] _ rfl (uxX9_readOrder_79 (N := N) (K := K)  H (fun M1 j r => hR M1 (Sm.tr j1 j) r))
  · skip
    replace H := H.2 c1
    refine g_aload_n 0 75 dX9_readOrder_74 rfl rfl ?_
    refine g_iconst (0) 76 dX9_readOrder_75 rfl rfl ?_
    refine g_callV (mc1 := 0) (ms1 := 0) (b := a0) (rest := []) (av := [.int (0)]) kX9_readTest 79 dX9_readOrder_76 rfl rfl mbX9_205 imX9_readTest seX9_readTest gcl9.1 (Sm.k j1 s0.1) (Nat.le_of_ble_eq_true rfl) (Nat.zero_le _) (Nat.zero_le _) (uX9_readTest (N := N) (K := K) (Mo.sm j1 s0) H (fun M2 jj H => ?_))
    have j2 : Sm M M2 := Sm.tr j1 jj
    show Go X (d + K + 5) mc ms kX9_readOrder Q 79 [(0, .ref a0)] [] M2 0 0
    exact g_sub [] _ rfl (uxX9_readOrder_79 (N := N) (K := K)  H (fun M1 j r => hR M1 (Sm.tr j2 j) r))
set_option maxRecDepth 10000 in
theorem uxX9_readOrder_50 {N K : Nat} {X : gX} {d mc ms : Nat} {Q : Option Value → gM → Prop} {R : gM → Prop} {M : gM} {a0 : Nat} (s0 : Mo M a0) (H : pX9_readOrder_50 N K R M a0) (hR : ∀ (M1 : gM), Sm M M1 → R M1 → Q none M1) : Go X (d + K + 5) mc ms kX9_readOrder Q 50 [(0, .ref a0)] [] M 0 0 := by
  unfold pX9_readOrder_50 at H
  refine g_aload_n 0 51 dX9_readOrder_50 rfl rfl ?_
  refine g_bipush (22) 53 dX9_readOrder_51 rfl rfl ?_
  refine g_callV (mc1 := 0) (ms1 := 0) (b := a0) (rest := []) (av := [.int (22)]) kX9_takes0 56 dX9_readOrder_53 rfl rfl mbX9_189 imX9_takes0 seX9_takes0 gcl9.1 s0.1 (Nat.le_of_ble_eq_true rfl) (Nat.zero_le _) (Nat.zero_le _) (uX9_takes0 (N := N) (K := K) s0 H (fun v1 M1 jj H => ?_))
  have j1 : Sm M M1 := jj
  show Go X (d + K + 5) mc ms kX9_readOrder Q 56 [(0, .ref a0)] [.int (v1)] M1 0 0
  refine g_if_eq 66 59 dX9_readOrder_56 rfl rfl (fun c1 => ?_) (fun c1 => ?_)
  · skip
    replace H := H.1 c1
    exact uxX9_readOrder_66 (N := N) (K := K) (Mo.sm j1 s0) H (fun M1 j r => hR M1 (Sm.tr j1 j) r)
  · skip
    replace H := H.2 c1
    refine g_aload_n 0 60 dX9_readOrder_59 rfl rfl ?_
    refine g_iconst (1) 61 dX9_readOrder_60 rfl rfl ?_
    refine g_bipush (20) 63 dX9_readOrder_61 rfl rfl ?_
    refine g_callV (mc1 := 0) (ms1 := 0) (b := a0) (rest := []) (av := [.int (1), .int (20)]) kX9_mustNumber 66 dX9_readOrder_63 rfl rfl mbX9_208 imX9_mustNumber seX9_mustNumber gcl9.1 (Sm.k j1 s0.1) (Nat.le_of_ble_eq_true rfl) (Nat.zero_le _) (Nat.zero_le _) (uX9_mustNumber (N := N) (K := K) (Mo.sm j1 s0) H (fun M2 jj H => ?_))
    have j2 : Sm M M2 := Sm.tr j1 jj
    show Go X (d + K + 5) mc ms kX9_readOrder Q 66 [(0, .ref a0)] [] M2 0 0
    exact uxX9_readOrder_66 (N := N) (K := K) (Mo.sm j2 s0) H (fun M1 j r => hR M1 (Sm.tr j2 j) r)
set_option maxRecDepth 10000 in
theorem uxX9_readOrder_36 {N K : Nat} {X : gX} {d mc ms : Nat} {Q : Option Value → gM → Prop} {R : gM → Prop} {M : gM} {a0 : Nat} (s0 : Mo M a0) (H : pX9_readOrder_36 N K R M a0) (hR : ∀ (M1 : gM), Sm M M1 → R M1 → Q none M1) : Go X (d + K + 5) mc ms kX9_readOrder Q 36 [(0, .ref a0)] [] M 0 0 := by
  unfold pX9_readOrder_36 at H
  refine g_aload_n 0 37 dX9_readOrder_36 rfl rfl ?_
  refine g_iconst (0) 38 dX9_readOrder_37 rfl rfl ?_
  refine g_callV (mc1 := 0) (ms1 := 0) (b := a0) (rest := []) (av := [.int (0)]) kX9_readSum 41 dX9_readOrder_38 rfl rfl mbX9_198 imX9_readSum seX9_readSum gcl9.1 s0.1 (Nat.le_of_ble_eq_true rfl) (Nat.zero_le _) (Nat.zero_le _) (uX9_readSum (N := N) (K := K) s0 H (fun M1 jj H => ?_))
  have j1 : Sm M M1 := jj
  show Go X (d + K + 5) mc ms kX9_readOrder Q 41 [(0, .ref a0)] [] M1 0 0
  refine g_goto 50 dX9_readOrder_41 rfl ?_
  exact uxX9_readOrder_50 (N := N) (K := K) (Mo.sm j1 s0) H (fun M1 j r => hR M1 (Sm.tr j1 j) r)
set_option maxRecDepth 10000 in
theorem uX9_readOrder {N K : Nat} {X : gX} {d mc ms : Nat} {Q : Option Value → gM → Prop} {M : gM} {a0 : Nat} {R : gM → Prop} (s0 : Mo M a0) (H : pX9_readOrder N K M a0 R) (hR : ∀ (M1 : gM), Sm M M1 → R M1 → Q none M1) : Cn X (d + K + 5) mc ms kX9_readOrder [.ref a0] M Q := by
  unfold pX9_readOrder at H
  refine g_meth rfl rfl (Nat.le_of_ble_eq_true rfl) rfl ?_
  refine g_aload_n 0 1 dX9_readOrder_0 rfl rfl ?_
  refine g_bipush (18) 3 dX9_readOrder_1 rfl rfl ?_
  refine g_callV (mc1 := 0) (ms1 := 0) (b := a0) (rest := []) (av := [.int (18)]) kX9_takes0 6 dX9_readOrder_3 rfl rfl mbX9_189 imX9_takes0 seX9_takes0 gcl9.1 s0.1 (Nat.le_of_ble_eq_true rfl) (Nat.zero_le _) (Nat.zero_le _) (uX9_takes0 (N := N) (K := K) s0 H (fun v1 M1 jj H => ?_))
  have j1 : Sm M M1 := jj
  show Go X (d + K + 5) mc ms kX9_readOrder Q 6 [(0, .ref a0)] [.int (v1)] M1 0 0
  refine g_if_ne 36 9 dX9_readOrder_6 rfl rfl (fun c1 => ?_) (fun c1 => ?_)
  · skip
    replace H := H.1 c1
    exact uxX9_readOrder_36 (N := N) (K := K) (Mo.sm j1 s0) H (fun M1 j r => hR M1 (Sm.tr j1 j) r)
  · skip
    replace H := H.2 c1
    refine g_aload_n 0 10 dX9_readOrder_9 rfl rfl ?_
    refine g_bipush (19) 12 dX9_readOrder_10 rfl rfl ?_
    refine g_callV (mc1 := 0) (ms1 := 0) (b := a0) (rest := []) (av := [.int (19)]) kX9_takes0 15 dX9_readOrder_12 rfl rfl mbX9_189 imX9_takes0 seX9_takes0 gcl9.1 (Sm.k j1 s0.1) (Nat.le_of_ble_eq_true rfl) (Nat.zero_le _) (Nat.zero_le _) (uX9_takes0 (N := N) (K := K) (Mo.sm j1 s0) H (fun v2 M2 jj H => ?_))
    have j2 : Sm M M2 := Sm.tr j1 jj
    show Go X (d + K + 5) mc ms kX9_readOrder Q 15 [(0, .ref a0)] [.int (v2)] M2 0 0
    refine g_if_ne 36 18 dX9_readOrder_15 rfl rfl (fun c2 => ?_) (fun c2 => ?_)
    · skip
      replace H := H.1 c2
      exact uxX9_readOrder_36 (N := N) (K := K) (Mo.sm j2 s0) H (fun M1 j r => hR M1 (Sm.tr j2 j) r)
    · skip
      replace H := H.2 c2
      refine g_aload_n 0 19 dX9_readOrder_18 rfl rfl ?_
      refine g_bipush (20) 21 dX9_readOrder_19 rfl rfl ?_
      refine g_callV (mc1 := 0) (ms1 := 0) (b := a0) (rest := []) (av := [.int (20)]) kX9_takes0 24 dX9_readOrder_21 rfl rfl mbX9_189 imX9_takes0 seX9_takes0 gcl9.1 (Sm.k j2 s0.1) (Nat.le_of_ble_eq_true rfl) (Nat.zero_le _) (Nat.zero_le _) (uX9_takes0 (N := N) (K := K) (Mo.sm j2 s0) H (fun v3 M3 jj H => ?_))
      have j3 : Sm M M3 := Sm.tr j2 jj
      show Go X (d + K + 5) mc ms kX9_readOrder Q 24 [(0, .ref a0)] [.int (v3)] M3 0 0
      refine g_if_ne 36 27 dX9_readOrder_24 rfl rfl (fun c3 => ?_) (fun c3 => ?_)
      · skip
        replace H := H.1 c3
        exact uxX9_readOrder_36 (N := N) (K := K) (Mo.sm j3 s0) H (fun M1 j r => hR M1 (Sm.tr j3 j) r)
      · skip
        replace H := H.2 c3
        refine g_aload_n 0 28 dX9_readOrder_27 rfl rfl ?_
        refine g_bipush (10) 30 dX9_readOrder_28 rfl rfl ?_
        refine g_callV (mc1 := 0) (ms1 := 0) (b := a0) (rest := []) (av := [.int (10)]) kX9_takes0 33 dX9_readOrder_30 rfl rfl mbX9_189 imX9_takes0 seX9_takes0 gcl9.1 (Sm.k j3 s0.1) (Nat.le_of_ble_eq_true rfl) (Nat.zero_le _) (Nat.zero_le _) (uX9_takes0 (N := N) (K := K) (Mo.sm j3 s0) H (fun v4 M4 jj H => ?_))
        have j4 : Sm M M4 := Sm.tr j3 jj
        show Go X (d + K + 5) mc ms kX9_readOrder Q 33 [(0, .ref a0)] [.int (v4)] M4 0 0
        refine g_if_eq 44 36 dX9_readOrder_33 rfl rfl (fun c4 => ?_) (fun c4 => ?_)
        · skip
          replace H := H.1 c4
          refine g_aload_n 0 45 dX9_readOrder_44 rfl rfl ?_
          refine g_bipush (21) 47 dX9_readOrder_45 rfl rfl ?_
          refine g_callV (mc1 := 0) (ms1 := 0) (b := a0) (rest := []) (av := [.int (21)]) kX9_must 50 dX9_readOrder_47 rfl rfl mbX9_202 imX9_must seX9_must gcl9.1 (Sm.k j4 s0.1) (Nat.le_of_ble_eq_true rfl) (Nat.zero_le _) (Nat.zero_le _) (uX9_must (N := N) (K := K) (Mo.sm j4 s0) H (fun M5 jj H => ?_))
          have j5 : Sm M M5 := Sm.tr j4 jj
          show Go X (d + K + 5) mc ms kX9_readOrder Q 50 [(0, .ref a0)] [] M5 0 0
          exact uxX9_readOrder_50 (N := N) (K := K) (Mo.sm j5 s0) H (fun M1 j r => hR M1 (Sm.tr j5 j) r)
        · skip
          replace H := H.2 c4
          exact uxX9_readOrder_36 (N := N) (K := K) (Mo.sm j4 s0) H (fun M1 j r => hR M1 (Sm.tr j4 j) r)
/-! X9_readOne -/
def pX9_readOne (N K : Nat) (M : gM) (a0 : Nat) (R : gM → Prop) : Prop := (((g_mi M a0 10) = 0 → pX9_readClause N K M a0 (fun M1 => R M1)) ∧ (¬ (g_mi M a0 10) = 0 → pX9_readOrder N K M a0 (fun M2 => R M2)))
set_option maxRecDepth 10000 in
theorem uX9_readOne {N K : Nat} {X : gX} {d mc ms : Nat} {Q : Option Value → gM → Prop} {M : gM} {a0 : Nat} {R : gM → Prop} (s0 : Mo M a0) (H : pX9_readOne N K M a0 R) (hR : ∀ (M1 : gM), Sm M M1 → R M1 → Q none M1) : Cn X (d + K + 6) mc ms kX9_readOne [.ref a0] M Q := by
  unfold pX9_readOne at H
  refine g_meth rfl rfl (Nat.le_of_ble_eq_true rfl) rfl ?_
  refine g_aload_n 0 1 dX9_readOne_0 rfl rfl ?_
  refine g_getI 4 dX9_readOne_1 rfl flX9_212 s0.1 ?_
  refine g_if_eq 14 7 dX9_readOne_4 rfl rfl (fun c1 => ?_) (fun c1 => ?_)
  · skip
    replace H := H.1 c1
    refine g_aload_n 0 15 dX9_readOne_14 rfl rfl ?_
    refine g_callV (mc1 := 0) (ms1 := 0) (b := a0) (rest := []) (av := []) kX9_readClause 18 dX9_readOne_15 rfl rfl mbX9_219 imX9_readClause seX9_readClause gcl9.1 s0.1 (Nat.le_of_ble_eq_true rfl) (Nat.zero_le _) (Nat.zero_le _) (uX9_readClause (N := N) (K := K) s0 H (fun M1 jj H => ?_))
    have j1 : Sm M M1 := jj
    show Go X (d + K + 6) mc ms kX9_readOne Q 18 [(0, .ref a0)] [] M1 0 0
    exact g_vret dX9_readOne_18 rfl (Nat.zero_le _) (Nat.zero_le _) (hR _ j1 H)
  · skip
    replace H := H.2 c1
    refine g_aload_n 0 8 dX9_readOne_7 rfl rfl ?_
    refine g_callV (mc1 := 0) (ms1 := 0) (b := a0) (rest := []) (av := []) kX9_readOrder 11 dX9_readOne_8 rfl rfl mbX9_216 imX9_readOrder seX9_readOrder gcl9.1 s0.1 (Nat.le_of_ble_eq_true rfl) (Nat.zero_le _) (Nat.zero_le _) (uX9_readOrder (N := N) (K := K) s0 H (fun M2 jj H => ?_))
    have j2 : Sm M M2 := jj
    show Go X (d + K + 6) mc ms kX9_readOne Q 11 [(0, .ref a0)] [] M2 0 0
    refine g_goto 18 dX9_readOne_11 rfl ?_
    exact g_vret dX9_readOne_18 rfl (Nat.zero_le _) (Nat.zero_le _) (hR _ j2 H)
/-! X9_reads -/
def pX9_reads_0 (N K : Nat) (kp : Nat → gM → Nat → Int32 → Prop) (R : Int32 → gM → Prop) (M : gM) (a0 : Nat) : Prop := pX9_splits N K M a0 (g_mi M a0 13) (fun M1 => ∀ M2 : gM, M2 = (g_wi M1 a0 13 0) → ∀ M3 : gM, M3 = (g_wi M2 a0 19 0) → ∀ M4 : gM, M4 = (g_wi M3 a0 20 0) → ∀ M5 : gM, M5 = (g_wi M4 a0 21 (-1)) → pX9_readOne N K M5 a0 (fun M6 => kp 0 M6 a0 1))
def pX9_reads_34 (N K : Nat) (kp : Nat → gM → Nat → Int32 → Prop) (R : Int32 → gM → Prop) (M : gM) (a0 : Nat) (x1 : Int32) : Prop := ∀ v1 : Int32, v1 = (fX9_sign 59) → pX9_takes0 N K M a0 v1 (fun v2 M1 => ((v2 = 0 → ∀ v3 : Int32, v3 = (fX9_fine M1 a0) → ((v3 = 0 → ∀ M2 : gM, M2 = (g_wi M1 a0 14 (g_mi M1 a0 21)) → ∀ v4 : Int32, v4 = (fX9_fine M2 a0) → (v4 = 0 ∨ v4 = 1) ∧ R v4 M2) ∧ (¬ v3 = 0 → (((g_mi M1 a0 18) ≤ (g_mi M1 a0 19) → ∀ M3 : gM, M3 = (g_wi M1 a0 14 (g_mi M1 a0 21)) → ∀ v5 : Int32, v5 = (fX9_fine M3 a0) → (v5 = 0 ∨ v5 = 1) ∧ R v5 M3) ∧ (¬ (g_mi M1 a0 18) ≤ (g_mi M1 a0 19) → pX9_faults N K M1 a0 (fun M4 => ∀ M5 : gM, M5 = (g_wi M4 a0 14 (g_mi M4 a0 21)) → ∀ v6 : Int32, v6 = (fX9_fine M5 a0) → (v6 = 0 ∨ v6 = 1) ∧ R v6 M5)))))) ∧ (¬ v2 = 0 → ((¬ x1 = 12 → ∀ v7 : Int32, v7 = (fX9_fine M1 a0) → ((v7 = 0 → kp 0 M1 a0 (x1 + 1)) ∧ (¬ v7 = 0 → pX9_readOne N K M1 a0 (fun M6 => kp 0 M6 a0 (x1 + 1))))) ∧ (x1 = 12 → pX9_faults N K M1 a0 (fun M7 => ∀ v8 : Int32, v8 = (fX9_fine M7 a0) → ((v8 = 0 → kp 0 M7 a0 (x1 + 1)) ∧ (¬ v8 = 0 → pX9_readOne N K M7 a0 (fun M8 => kp 0 M8 a0 (x1 + 1))))))))))
def qX9_reads (N K : Nat) (R : Int32 → gM → Prop) : Nat → Nat → gM → Nat → Int32 → Prop
  | 0, _, _, _, _ => False
  | n + 1, _, M, a0, x1 => pX9_reads_34 N K (qX9_reads N K R n) R M a0 x1
def pX9_reads (N K : Nat) (M : gM) (a0 : Nat) (R : Int32 → gM → Prop) : Prop := pX9_reads_0 N K (qX9_reads N K R N) R M a0
def ULX9_reads (X : gX) (d mc ms : Nat) (Q : Option Value → gM → Prop) (N K : Nat) (R : Int32 → gM → Prop) (n : Nat) : Prop := (∀ (M : gM) (a0 : Nat) (x1 : Int32), Mo M a0 → qX9_reads N K R n 0 M a0 x1 → (∀ (v : Int32) (M1 : gM), Sm M M1 → R v M1 → Q (some (.int v)) M1) → Go X (d + K + 7) mc ms kX9_reads Q 34 [(0, .ref a0), (1, .int (x1))] [] M 0 0)
set_option maxRecDepth 10000 in
theorem ulX9_reads {X : gX} {d mc ms : Nat} {Q : Option Value → gM → Prop} {N K : Nat} {R : Int32 → gM → Prop} : ∀ n : Nat, ULX9_reads X d mc ms Q N K R n := by
  intro n
  induction n with
  | zero => exact fun _ _ _ _ h _ => h.elim
  | succ n ih =>
    intro M a0 x1 s0 H hR
    rw [qX9_reads] at H
    unfold pX9_reads_34 at H
    refine g_aload_n 0 35 dX9_reads_34 rfl rfl ?_
    refine g_bipush (59) 37 dX9_reads_35 rfl rfl ?_
    refine g_callS (mc1 := 0) (ms1 := 0) (rest := [.ref a0]) (av := [.int (59)]) kX9_sign 40 dX9_reads_37 rfl rfl mbX9_228 smX9_sign (Nat.le_of_ble_eq_true rfl) (Nat.zero_le _) (Nat.zero_le _) (tX9_sign  ?_)
    show Go X (d + K + 7) mc ms kX9_reads Q 40 [(0, .ref a0), (1, .int (x1))] [.int ((fX9_sign 59)), .ref a0] M 0 0
    generalize hv1 : (fX9_sign 59) = v1
    replace H := H v1 hv1.symm
    refine g_callV (mc1 := 0) (ms1 := 0) (b := a0) (rest := []) (av := [.int (v1)]) kX9_takes0 43 dX9_reads_40 rfl rfl mbX9_189 imX9_takes0 seX9_takes0 gcl9.1 s0.1 (Nat.le_of_ble_eq_true rfl) (Nat.zero_le _) (Nat.zero_le _) (uX9_takes0 (N := N) (K := K) s0 H (fun v2 M1 jj H => ?_))
    have j1 : Sm M M1 := jj
    show Go X (d + K + 7) mc ms kX9_reads Q 43 [(0, .ref a0), (1, .int (x1))] [.int (v2)] M1 0 0
    refine g_if_eq 73 46 dX9_reads_43 rfl rfl (fun c1 => ?_) (fun c1 => ?_)
    · skip
      replace H := H.1 c1
      refine g_aload_n 0 74 dX9_reads_73 rfl rfl ?_
      refine g_callV (mc1 := 0) (ms1 := 0) (b := a0) (rest := []) (av := []) kX9_fine 77 dX9_reads_74 rfl rfl mbX9_182 imX9_fine seX9_fine gcl9.1 (Sm.k j1 s0.1) (Nat.le_of_ble_eq_true rfl) (Nat.zero_le _) (Nat.zero_le _) (tX9_fine (Mo.sm j1 s0) ?_)
      show Go X (d + K + 7) mc ms kX9_reads Q 77 [(0, .ref a0), (1, .int (x1))] [.int ((fX9_fine M1 a0))] M1 0 0
      generalize hv3 : (fX9_fine M1 a0) = v3
      replace H := H v3 hv3.symm
      refine g_if_eq 95 80 dX9_reads_77 rfl rfl (fun c2 => ?_) (fun c2 => ?_)
      · skip
        replace H := H.1 c2
        refine g_aload_n 0 96 dX9_reads_95 rfl rfl ?_
        refine g_aload_n 0 97 dX9_reads_96 rfl rfl ?_
        refine g_getI 100 dX9_reads_97 rfl flX9_179 (Sm.k j1 s0.1) ?_
        refine g_putI 103 dX9_reads_100 rfl flX9_51 (Sm.k j1 s0.1) ?_
        generalize hM2 : (g_wi M1 a0 14 (g_mi M1 a0 21)) = M2
        have j2 : Sm M M2 := by rw [← hM2]; exact (Sm.wi j1)
        replace H := H M2 hM2.symm
        refine g_aload_n 0 104 dX9_reads_103 rfl rfl ?_
        refine g_callV (mc1 := 0) (ms1 := 0) (b := a0) (rest := []) (av := []) kX9_fine 107 dX9_reads_104 rfl rfl mbX9_182 imX9_fine seX9_fine gcl9.1 (Sm.k j2 s0.1) (Nat.le_of_ble_eq_true rfl) (Nat.zero_le _) (Nat.zero_le _) (tX9_fine (Mo.sm j2 s0) ?_)
        show Go X (d + K + 7) mc ms kX9_reads Q 107 [(0, .ref a0), (1, .int (x1))] [.int ((fX9_fine M2 a0))] M2 0 0
        generalize hv4 : (fX9_fine M2 a0) = v4
        replace H := H v4 hv4.symm
        obtain ⟨b1, H⟩ := H
        exact g_zret dX9_reads_107 rfl b1 (Nat.zero_le _) (Nat.zero_le _) (hR _ _ j2 H)
      · skip
        replace H := H.2 c2
        refine g_aload_n 0 81 dX9_reads_80 rfl rfl ?_
        refine g_getI 84 dX9_reads_81 rfl flX9_186 (Sm.k j1 s0.1) ?_
        refine g_aload_n 0 85 dX9_reads_84 rfl rfl ?_
        refine g_getI 88 dX9_reads_85 rfl flX9_166 (Sm.k j1 s0.1) ?_
        refine g_icmp_ge 95 91 dX9_reads_88 rfl rfl (fun c3 => ?_) (fun c3 => ?_)
        · skip
          replace H := H.1 c3
          refine g_aload_n 0 96 dX9_reads_95 rfl rfl ?_
          refine g_aload_n 0 97 dX9_reads_96 rfl rfl ?_
          refine g_getI 100 dX9_reads_97 rfl flX9_179 (Sm.k j1 s0.1) ?_
          refine g_putI 103 dX9_reads_100 rfl flX9_51 (Sm.k j1 s0.1) ?_
          generalize hM3 : (g_wi M1 a0 14 (g_mi M1 a0 21)) = M3
          have j3 : Sm M M3 := by rw [← hM3]; exact (Sm.wi j1)
          replace H := H M3 hM3.symm
          refine g_aload_n 0 104 dX9_reads_103 rfl rfl ?_
          refine g_callV (mc1 := 0) (ms1 := 0) (b := a0) (rest := []) (av := []) kX9_fine 107 dX9_reads_104 rfl rfl mbX9_182 imX9_fine seX9_fine gcl9.1 (Sm.k j3 s0.1) (Nat.le_of_ble_eq_true rfl) (Nat.zero_le _) (Nat.zero_le _) (tX9_fine (Mo.sm j3 s0) ?_)
          show Go X (d + K + 7) mc ms kX9_reads Q 107 [(0, .ref a0), (1, .int (x1))] [.int ((fX9_fine M3 a0))] M3 0 0
          generalize hv5 : (fX9_fine M3 a0) = v5
          replace H := H v5 hv5.symm
          obtain ⟨b2, H⟩ := H
          exact g_zret dX9_reads_107 rfl b2 (Nat.zero_le _) (Nat.zero_le _) (hR _ _ j3 H)
        · skip
          replace H := H.2 c3
          refine g_aload_n 0 92 dX9_reads_91 rfl rfl ?_
          refine g_callV (mc1 := 0) (ms1 := 0) (b := a0) (rest := []) (av := []) kX9_faults 95 dX9_reads_92 rfl rfl mbX9_192 imX9_faults seX9_faults gcl9.1 (Sm.k j1 s0.1) (Nat.le_of_ble_eq_true rfl) (Nat.zero_le _) (Nat.zero_le _) (uX9_faults (N := N) (K := K) (Mo.sm j1 s0) H (fun M4 jj H => ?_))
          have j4 : Sm M M4 := Sm.tr j1 jj
          show Go X (d + K + 7) mc ms kX9_reads Q 95 [(0, .ref a0), (1, .int (x1))] [] M4 0 0
          refine g_aload_n 0 96 dX9_reads_95 rfl rfl ?_
          refine g_aload_n 0 97 dX9_reads_96 rfl rfl ?_
          refine g_getI 100 dX9_reads_97 rfl flX9_179 (Sm.k j4 s0.1) ?_
          refine g_putI 103 dX9_reads_100 rfl flX9_51 (Sm.k j4 s0.1) ?_
          generalize hM5 : (g_wi M4 a0 14 (g_mi M4 a0 21)) = M5
          have j5 : Sm M M5 := by rw [← hM5]; exact (Sm.wi j4)
          replace H := H M5 hM5.symm
          refine g_aload_n 0 104 dX9_reads_103 rfl rfl ?_
          refine g_callV (mc1 := 0) (ms1 := 0) (b := a0) (rest := []) (av := []) kX9_fine 107 dX9_reads_104 rfl rfl mbX9_182 imX9_fine seX9_fine gcl9.1 (Sm.k j5 s0.1) (Nat.le_of_ble_eq_true rfl) (Nat.zero_le _) (Nat.zero_le _) (tX9_fine (Mo.sm j5 s0) ?_)
          show Go X (d + K + 7) mc ms kX9_reads Q 107 [(0, .ref a0), (1, .int (x1))] [.int ((fX9_fine M5 a0))] M5 0 0
          generalize hv6 : (fX9_fine M5 a0) = v6
          replace H := H v6 hv6.symm
          obtain ⟨b3, H⟩ := H
          exact g_zret dX9_reads_107 rfl b3 (Nat.zero_le _) (Nat.zero_le _) (hR _ _ j5 H)
    · skip
      replace H := H.2 c1
      refine g_iload_n 1 47 dX9_reads_46 rfl rfl ?_
      refine g_bipush (12) 49 dX9_reads_47 rfl rfl ?_
      refine g_icmp_ne 56 52 dX9_reads_49 rfl rfl (fun c4 => ?_) (fun c4 => ?_)
      · skip
        replace H := H.1 c4
        refine g_aload_n 0 57 dX9_reads_56 rfl rfl ?_
        refine g_callV (mc1 := 0) (ms1 := 0) (b := a0) (rest := []) (av := []) kX9_fine 60 dX9_reads_57 rfl rfl mbX9_182 imX9_fine seX9_fine gcl9.1 (Sm.k j1 s0.1) (Nat.le_of_ble_eq_true rfl) (Nat.zero_le _) (Nat.zero_le _) (tX9_fine (Mo.sm j1 s0) ?_)
        show Go X (d + K + 7) mc ms kX9_reads Q 60 [(0, .ref a0), (1, .int (x1))] [.int ((fX9_fine M1 a0))] M1 0 0
        generalize hv7 : (fX9_fine M1 a0) = v7
        replace H := H v7 hv7.symm
        refine g_if_eq 67 63 dX9_reads_60 rfl rfl (fun c5 => ?_) (fun c5 => ?_)
        · skip
          replace H := H.1 c5
          refine g_iinc _ 1 70 [(1, .int ((x1 + 1))), (0, .ref a0)] dX9_reads_67 rfl rfl rfl (Nat.le_of_ble_eq_true rfl) rfl ?_
          refine g_goto 34 dX9_reads_70 rfl ?_
          exact g_sub [1, 0] _ rfl (ih M1 a0 (x1 + 1) (Mo.sm j1 s0) H (fun v M1 j r => hR v M1 (Sm.tr j1 j) r))
        · skip
          replace H := H.2 c5
          refine g_aload_n 0 64 dX9_reads_63 rfl rfl ?_
          refine g_callV (mc1 := 0) (ms1 := 0) (b := a0) (rest := []) (av := []) kX9_readOne 67 dX9_reads_64 rfl rfl mbX9_250 imX9_readOne seX9_readOne gcl9.1 (Sm.k j1 s0.1) (Nat.le_of_ble_eq_true rfl) (Nat.zero_le _) (Nat.zero_le _) (uX9_readOne (N := N) (K := K) (Mo.sm j1 s0) H (fun M6 jj H => ?_))
          have j6 : Sm M M6 := Sm.tr j1 jj
          show Go X (d + K + 7) mc ms kX9_reads Q 67 [(0, .ref a0), (1, .int (x1))] [] M6 0 0
          refine g_iinc _ 1 70 [(1, .int ((x1 + 1))), (0, .ref a0)] dX9_reads_67 rfl rfl rfl (Nat.le_of_ble_eq_true rfl) rfl ?_
          refine g_goto 34 dX9_reads_70 rfl ?_
          exact g_sub [1, 0] _ rfl (ih M6 a0 (x1 + 1) (Mo.sm j6 s0) H (fun v M1 j r => hR v M1 (Sm.tr j6 j) r))
      · skip
        replace H := H.2 c4
        refine g_aload_n 0 53 dX9_reads_52 rfl rfl ?_
        refine g_callV (mc1 := 0) (ms1 := 0) (b := a0) (rest := []) (av := []) kX9_faults 56 dX9_reads_53 rfl rfl mbX9_192 imX9_faults seX9_faults gcl9.1 (Sm.k j1 s0.1) (Nat.le_of_ble_eq_true rfl) (Nat.zero_le _) (Nat.zero_le _) (uX9_faults (N := N) (K := K) (Mo.sm j1 s0) H (fun M7 jj H => ?_))
        have j7 : Sm M M7 := Sm.tr j1 jj
        show Go X (d + K + 7) mc ms kX9_reads Q 56 [(0, .ref a0), (1, .int (x1))] [] M7 0 0
        refine g_aload_n 0 57 dX9_reads_56 rfl rfl ?_
        refine g_callV (mc1 := 0) (ms1 := 0) (b := a0) (rest := []) (av := []) kX9_fine 60 dX9_reads_57 rfl rfl mbX9_182 imX9_fine seX9_fine gcl9.1 (Sm.k j7 s0.1) (Nat.le_of_ble_eq_true rfl) (Nat.zero_le _) (Nat.zero_le _) (tX9_fine (Mo.sm j7 s0) ?_)
        show Go X (d + K + 7) mc ms kX9_reads Q 60 [(0, .ref a0), (1, .int (x1))] [.int ((fX9_fine M7 a0))] M7 0 0
        generalize hv8 : (fX9_fine M7 a0) = v8
        replace H := H v8 hv8.symm
        refine g_if_eq 67 63 dX9_reads_60 rfl rfl (fun c6 => ?_) (fun c6 => ?_)
        · skip
          replace H := H.1 c6
          refine g_iinc _ 1 70 [(1, .int ((x1 + 1))), (0, .ref a0)] dX9_reads_67 rfl rfl rfl (Nat.le_of_ble_eq_true rfl) rfl ?_
          refine g_goto 34 dX9_reads_70 rfl ?_
          exact g_sub [1, 0] _ rfl (ih M7 a0 (x1 + 1) (Mo.sm j7 s0) H (fun v M1 j r => hR v M1 (Sm.tr j7 j) r))
        · skip
          replace H := H.2 c6
          refine g_aload_n 0 64 dX9_reads_63 rfl rfl ?_
          refine g_callV (mc1 := 0) (ms1 := 0) (b := a0) (rest := []) (av := []) kX9_readOne 67 dX9_reads_64 rfl rfl mbX9_250 imX9_readOne seX9_readOne gcl9.1 (Sm.k j7 s0.1) (Nat.le_of_ble_eq_true rfl) (Nat.zero_le _) (Nat.zero_le _) (uX9_readOne (N := N) (K := K) (Mo.sm j7 s0) H (fun M8 jj H => ?_))
          have j8 : Sm M M8 := Sm.tr j7 jj
          show Go X (d + K + 7) mc ms kX9_reads Q 67 [(0, .ref a0), (1, .int (x1))] [] M8 0 0
          refine g_iinc _ 1 70 [(1, .int ((x1 + 1))), (0, .ref a0)] dX9_reads_67 rfl rfl rfl (Nat.le_of_ble_eq_true rfl) rfl ?_
          refine g_goto 34 dX9_reads_70 rfl ?_
          exact g_sub [1, 0] _ rfl (ih M8 a0 (x1 + 1) (Mo.sm j8 s0) H (fun v M1 j r => hR v M1 (Sm.tr j8 j) r))
set_option maxRecDepth 10000 in
theorem uX9_reads {N K : Nat} {X : gX} {d mc ms : Nat} {Q : Option Value → gM → Prop} {M : gM} {a0 : Nat} {R : Int32 → gM → Prop} (s0 : Mo M a0) (H : pX9_reads N K M a0 R) (hR : ∀ (v : Int32) (M1 : gM), Sm M M1 → R v M1 → Q (some (.int v)) M1) : Cn X (d + K + 7) mc ms kX9_reads [.ref a0] M Q := by
  have ih := ulX9_reads (X := X) (d := d) (mc := mc) (ms := ms) (Q := Q) (N := N) (K := K) (R := R) N
  unfold pX9_reads pX9_reads_0 at H
  refine g_meth rfl rfl (Nat.le_of_ble_eq_true rfl) rfl ?_
  refine g_aload_n 0 1 dX9_reads_0 rfl rfl ?_
  refine g_aload_n 0 2 dX9_reads_1 rfl rfl ?_
  refine g_getI 5 dX9_reads_2 rfl flX9_157 s0.1 ?_
  refine g_callV (mc1 := 0) (ms1 := 0) (b := a0) (rest := []) (av := [.int ((g_mi M a0 13))]) kX9_splits 8 dX9_reads_5 rfl rfl mbX9_247 imX9_splits seX9_splits gcl9.1 s0.1 (Nat.le_of_ble_eq_true rfl) (Nat.zero_le _) (Nat.zero_le _) (uX9_splits (N := N) (K := K) s0 H (fun M1 jj H => ?_))
  have j1 : Sm M M1 := jj
  show Go X (d + K + 7) mc ms kX9_reads Q 8 [(0, .ref a0)] [] M1 0 0
  refine g_aload_n 0 9 dX9_reads_8 rfl rfl ?_
  refine g_iconst (0) 10 dX9_reads_9 rfl rfl ?_
  refine g_putI 13 dX9_reads_10 rfl flX9_157 (Sm.k j1 s0.1) ?_
  generalize hM2 : (g_wi M1 a0 13 0) = M2
  have j2 : Sm M M2 := by rw [← hM2]; exact (Sm.wi j1)
  replace H := H M2 hM2.symm
  refine g_aload_n 0 14 dX9_reads_13 rfl rfl ?_
  refine g_iconst (0) 15 dX9_reads_14 rfl rfl ?_
  refine g_putI 18 dX9_reads_15 rfl flX9_186 (Sm.k j2 s0.1) ?_
  generalize hM3 : (g_wi M2 a0 19 0) = M3
  have j3 : Sm M M3 := by rw [← hM3]; exact (Sm.wi j2)
  replace H := H M3 hM3.symm
  refine g_aload_n 0 19 dX9_reads_18 rfl rfl ?_
  refine g_iconst (0) 20 dX9_reads_19 rfl rfl ?_
  refine g_putI 23 dX9_reads_20 rfl flX9_195 (Sm.k j3 s0.1) ?_
  generalize hM4 : (g_wi M3 a0 20 0) = M4
  have j4 : Sm M M4 := by rw [← hM4]; exact (Sm.wi j3)
  replace H := H M4 hM4.symm
  refine g_aload_n 0 24 dX9_reads_23 rfl rfl ?_
  refine g_iconst ((-1)) 25 dX9_reads_24 rfl rfl ?_
  refine g_putI 28 dX9_reads_25 rfl flX9_179 (Sm.k j4 s0.1) ?_
  generalize hM5 : (g_wi M4 a0 21 (-1)) = M5
  have j5 : Sm M M5 := by rw [← hM5]; exact (Sm.wi j4)
  replace H := H M5 hM5.symm
  refine g_aload_n 0 29 dX9_reads_28 rfl rfl ?_
  refine g_callV (mc1 := 0) (ms1 := 0) (b := a0) (rest := []) (av := []) kX9_readOne 32 dX9_reads_29 rfl rfl mbX9_250 imX9_readOne seX9_readOne gcl9.1 (Sm.k j5 s0.1) (Nat.le_of_ble_eq_true rfl) (Nat.zero_le _) (Nat.zero_le _) (uX9_readOne (N := N) (K := K) (Mo.sm j5 s0) H (fun M6 jj H => ?_))
  have j6 : Sm M M6 := Sm.tr j5 jj
  show Go X (d + K + 7) mc ms kX9_reads Q 32 [(0, .ref a0)] [] M6 0 0
  refine g_iconst (1) 33 dX9_reads_32 rfl rfl ?_
  refine g_istore_n 34 [(1, .int (1)), (0, .ref a0)] dX9_reads_33 rfl (Nat.le_of_ble_eq_true rfl) rfl ?_
  exact g_sub [1, 0] _ rfl (ih M6 a0 1 (Mo.sm j6 s0) H (fun v M1 j r => hR v M1 (Sm.tr j6 j) r))
/-! X9_readsAs -/
def pX9_readsAs (N K : Nat) (M : gM) (a0 : Nat) (x1 : Int32) (R : Int32 → gM → Prop) : Prop := (x1 = 0 ∨ x1 = 1) ∧ ∀ M1 : gM, M1 = (g_wi M a0 10 x1) → ((x1 = 0 → ∀ M2 : gM, M2 = (g_wi M1 a0 8 7) → ∀ M3 : gM, M3 = (g_wi M2 a0 9 13) → pX9_reads N K M3 a0 (fun v1 M4 => (v1 = 0 ∨ v1 = 1) ∧ R v1 M4)) ∧ (¬ x1 = 0 → ∀ M5 : gM, M5 = (g_wi M1 a0 8 12) → ∀ M6 : gM, M6 = (g_wi M5 a0 9 17) → pX9_reads N K M6 a0 (fun v2 M7 => (v2 = 0 ∨ v2 = 1) ∧ R v2 M7)))
set_option maxRecDepth 10000 in
theorem uX9_readsAs {N K : Nat} {X : gX} {d mc ms : Nat} {Q : Option Value → gM → Prop} {M : gM} {a0 : Nat} {x1 : Int32} {R : Int32 → gM → Prop} (s0 : Mo M a0) (H : pX9_readsAs N K M a0 x1 R) (hR : ∀ (v : Int32) (M1 : gM), Sm M M1 → R v M1 → Q (some (.int v)) M1) : Cn X (d + K + 8) mc ms kX9_readsAs [.ref a0, .int (x1)] M Q := by
  unfold pX9_readsAs at H
  refine g_meth rfl rfl (Nat.le_of_ble_eq_true rfl) rfl ?_
  refine g_aload_n 0 1 dX9_readsAs_0 rfl rfl ?_
  refine g_iload_n 1 2 dX9_readsAs_1 rfl rfl ?_
  obtain ⟨b1, H⟩ := H
  refine g_putZ 5 dX9_readsAs_2 rfl flX9_212 s0.1 b1 ?_
  generalize hM1 : (g_wi M a0 10 x1) = M1
  have j1 : Sm M M1 := by rw [← hM1]; exact (Sm.wi Sm.rf)
  replace H := H M1 hM1.symm
  refine g_aload_n 0 6 dX9_readsAs_5 rfl rfl ?_
  refine g_iload_n 1 7 dX9_readsAs_6 rfl rfl ?_
  refine g_if_eq 15 10 dX9_readsAs_7 rfl rfl (fun c1 => ?_) (fun c1 => ?_)
  · skip
    replace H := H.1 c1
    refine g_bipush (7) 17 dX9_readsAs_15 rfl rfl ?_
    refine g_putI 20 dX9_readsAs_17 rfl flX9_238 (Sm.k j1 s0.1) ?_
    generalize hM2 : (g_wi M1 a0 8 7) = M2
    have j2 : Sm M M2 := by rw [← hM2]; exact (Sm.wi j1)
    replace H := H M2 hM2.symm
    refine g_aload_n 0 21 dX9_readsAs_20 rfl rfl ?_
    refine g_iload_n 1 22 dX9_readsAs_21 rfl rfl ?_
    refine g_if_eq 30 25 dX9_readsAs_22 rfl rfl (fun _ => ?_) (fun q => absurd c1 q)
    refine g_bipush (13) 32 dX9_readsAs_30 rfl rfl ?_
    refine g_putI 35 dX9_readsAs_32 rfl flX9_241 (Sm.k j2 s0.1) ?_
    generalize hM3 : (g_wi M2 a0 9 13) = M3
    have j3 : Sm M M3 := by rw [← hM3]; exact (Sm.wi j2)
    replace H := H M3 hM3.symm
    refine g_aload_n 0 36 dX9_readsAs_35 rfl rfl ?_
    refine g_callV (mc1 := 0) (ms1 := 0) (b := a0) (rest := []) (av := []) kX9_reads 39 dX9_readsAs_36 rfl rfl mbX9_253 imX9_reads seX9_reads gcl9.1 (Sm.k j3 s0.1) (Nat.le_of_ble_eq_true rfl) (Nat.zero_le _) (Nat.zero_le _) (uX9_reads (N := N) (K := K) (Mo.sm j3 s0) H (fun v1 M4 jj H => ?_))
    have j4 : Sm M M4 := Sm.tr j3 jj
    show Go X (d + K + 8) mc ms kX9_readsAs Q 39 [(0, .ref a0), (1, .int (x1))] [.int (v1)] M4 0 0
    obtain ⟨b2, H⟩ := H
    exact g_zret dX9_readsAs_39 rfl b2 (Nat.zero_le _) (Nat.zero_le _) (hR _ _ j4 H)
  · skip
    replace H := H.2 c1
    refine g_bipush (12) 12 dX9_readsAs_10 rfl rfl ?_
    refine g_goto 17 dX9_readsAs_12 rfl ?_
    refine g_putI 20 dX9_readsAs_17 rfl flX9_238 (Sm.k j1 s0.1) ?_
    generalize hM5 : (g_wi M1 a0 8 12) = M5
    have j5 : Sm M M5 := by rw [← hM5]; exact (Sm.wi j1)
    replace H := H M5 hM5.symm
    refine g_aload_n 0 21 dX9_readsAs_20 rfl rfl ?_
    refine g_iload_n 1 22 dX9_readsAs_21 rfl rfl ?_
    refine g_if_eq 30 25 dX9_readsAs_22 rfl rfl (fun q => absurd q c1) (fun _ => ?_)
    refine g_bipush (17) 27 dX9_readsAs_25 rfl rfl ?_
    refine g_goto 32 dX9_readsAs_27 rfl ?_
    refine g_putI 35 dX9_readsAs_32 rfl flX9_241 (Sm.k j5 s0.1) ?_
    generalize hM6 : (g_wi M5 a0 9 17) = M6
    have j6 : Sm M M6 := by rw [← hM6]; exact (Sm.wi j5)
    replace H := H M6 hM6.symm
    refine g_aload_n 0 36 dX9_readsAs_35 rfl rfl ?_
    refine g_callV (mc1 := 0) (ms1 := 0) (b := a0) (rest := []) (av := []) kX9_reads 39 dX9_readsAs_36 rfl rfl mbX9_253 imX9_reads seX9_reads gcl9.1 (Sm.k j6 s0.1) (Nat.le_of_ble_eq_true rfl) (Nat.zero_le _) (Nat.zero_le _) (uX9_reads (N := N) (K := K) (Mo.sm j6 s0) H (fun v2 M7 jj H => ?_))
    have j7 : Sm M M7 := Sm.tr j6 jj
    show Go X (d + K + 8) mc ms kX9_readsAs Q 39 [(0, .ref a0), (1, .int (x1))] [.int (v2)] M7 0 0
    obtain ⟨b3, H⟩ := H
    exact g_zret dX9_readsAs_39 rfl b3 (Nat.zero_le _) (Nat.zero_le _) (hR _ _ j7 H)
/-! X9_law -/
def pX9_law (N K : Nat) (M : gM) (a0 : Nat) (R : Int32 → gM → Prop) : Prop := ((¬ (g_mi M (a0 + 2) 203) = 6 → pX9_readsAs N K M a0 0 (fun v1 M1 => ((¬ v1 = 0 → pX9_lays N K M1 a0 (g_mi M1 (a0 + 2) 203) (fun M2 => ∀ M3 : gM, M3 = (g_wi M2 (a0 + 2) 203 ((g_mi M2 (a0 + 2) 203) + 1)) → pX9_good0 N K M3 a0 ((g_mi M3 (a0 + 2) 203) - 1) (fun v2 M4 => R v2 M4))) ∧ (v1 = 0 → pX9_refuses N K M1 a0 (-6) (fun v3 M5 => R v3 M5))))) ∧ ((g_mi M (a0 + 2) 203) = 6 → ∀ M6 : gM, M6 = (g_wi M a0 13 0) → pX9_refuses N K M6 a0 (-5) (fun v4 M7 => R v4 M7)))
set_option maxRecDepth 10000 in
theorem uX9_law {N K : Nat} {X : gX} {d mc ms : Nat} {Q : Option Value → gM → Prop} {M : gM} {a0 : Nat} {R : Int32 → gM → Prop} (s0 : Mo M a0) (H : pX9_law N K M a0 R) (hR : ∀ (v : Int32) (M1 : gM), Sm M M1 → R v M1 → Q (some (.int v)) M1) : Cn X (d + K + 9) mc ms kX9_law [.ref a0] M Q := by
  unfold pX9_law at H
  refine g_meth rfl rfl (Nat.le_of_ble_eq_true rfl) rfl ?_
  refine g_aload_n 0 1 dX9_law_0 rfl rfl ?_
  refine g_getR 4 (a0 + 2) dX9_law_1 rfl flX9_28 s0.1 s0.2.2.2.1 ?_
  refine g_sipush (203) 7 dX9_law_4 rfl rfl ?_
  refine h_iaload 8 203 dX9_law_7 rfl rfl s0.2.2.2.2.1 (vp_lit rfl) ?_
  refine g_bipush (6) 10 dX9_law_8 rfl rfl ?_
  refine g_icmp_ne 25 13 dX9_law_10 rfl rfl (fun c1 => ?_) (fun c1 => ?_)
  · skip
    replace H := H.1 c1
    refine g_aload_n 0 26 dX9_law_25 rfl rfl ?_
    refine g_iconst (0) 27 dX9_law_26 rfl rfl ?_
    refine g_callV (mc1 := 0) (ms1 := 0) (b := a0) (rest := []) (av := [.int (0)]) kX9_readsAs 30 dX9_law_27 rfl rfl mbX9_256 imX9_readsAs seX9_readsAs gcl9.1 s0.1 (Nat.le_of_ble_eq_true rfl) (Nat.zero_le _) (Nat.zero_le _) (uX9_readsAs (N := N) (K := K) s0 H (fun v1 M1 jj H => ?_))
    have j1 : Sm M M1 := jj
    show Go X (d + K + 9) mc ms kX9_law Q 30 [(0, .ref a0)] [.int (v1)] M1 0 0
    refine g_if_ne 40 33 dX9_law_30 rfl rfl (fun c2 => ?_) (fun c2 => ?_)
    · skip
      replace H := H.1 c2
      refine g_aload_n 0 41 dX9_law_40 rfl rfl ?_
      refine g_aload_n 0 42 dX9_law_41 rfl rfl ?_
      refine g_getR 45 (a0 + 2) dX9_law_42 rfl flX9_28 (Sm.k j1 s0.1) (Sm.r j1 s0.2.2.2.1) ?_
      refine g_sipush (203) 48 dX9_law_45 rfl rfl ?_
      refine h_iaload 49 203 dX9_law_48 rfl rfl (Sm.k j1 s0.2.2.2.2.1) (vp_lit rfl) ?_
      refine g_callV (mc1 := 0) (ms1 := 0) (b := a0) (rest := []) (av := [.int ((g_mi M1 (a0 + 2) 203))]) kX9_lays 52 dX9_law_49 rfl rfl mbX9_260 imX9_lays seX9_lays gcl9.1 (Sm.k j1 s0.1) (Nat.le_of_ble_eq_true rfl) (Nat.zero_le _) (Nat.zero_le _) (uX9_lays (N := N) (K := K) (Mo.sm j1 s0) H (fun M2 jj H => ?_))
      have j2 : Sm M M2 := Sm.tr j1 jj
      show Go X (d + K + 9) mc ms kX9_law Q 52 [(0, .ref a0)] [] M2 0 0
      refine g_aload_n 0 53 dX9_law_52 rfl rfl ?_
      refine g_getR 56 (a0 + 2) dX9_law_53 rfl flX9_28 (Sm.k j2 s0.1) (Sm.r j2 s0.2.2.2.1) ?_
      refine g_sipush (203) 59 dX9_law_56 rfl rfl ?_
      refine g_dup2 60 dX9_law_59 rfl rfl rfl ?_
      refine h_iaload 61 203 dX9_law_60 rfl rfl (Sm.k j2 s0.2.2.2.2.1) (vp_lit rfl) ?_
      refine g_iconst (1) 62 dX9_law_61 rfl rfl ?_
      refine g_iadd 63 dX9_law_62 rfl ?_
      refine h_iastore 64 203 dX9_law_63 rfl rfl (Sm.k j2 s0.2.2.2.2.1) (vp_lit rfl) ?_
      generalize hM3 : (g_wi M2 (a0 + 2) 203 ((g_mi M2 (a0 + 2) 203) + 1)) = M3
      have j3 : Sm M M3 := by rw [← hM3]; exact (Sm.wi j2)
      replace H := H M3 hM3.symm
      refine g_aload_n 0 65 dX9_law_64 rfl rfl ?_
      refine g_aload_n 0 66 dX9_law_65 rfl rfl ?_
      refine g_getR 69 (a0 + 2) dX9_law_66 rfl flX9_28 (Sm.k j3 s0.1) (Sm.r j3 s0.2.2.2.1) ?_
      refine g_sipush (203) 72 dX9_law_69 rfl rfl ?_
      refine h_iaload 73 203 dX9_law_72 rfl rfl (Sm.k j3 s0.2.2.2.2.1) (vp_lit rfl) ?_
      refine g_iconst (1) 74 dX9_law_73 rfl rfl ?_
      refine g_isub 75 dX9_law_74 rfl ?_
      refine g_callV (mc1 := 0) (ms1 := 0) (b := a0) (rest := []) (av := [.int (((g_mi M3 (a0 + 2) 203) - 1))]) kX9_good0 78 dX9_law_75 rfl rfl mbX9_14 imX9_good0 seX9_good0 gcl9.1 (Sm.k j3 s0.1) (Nat.le_of_ble_eq_true rfl) (Nat.zero_le _) (Nat.zero_le _) (uX9_good0 (N := N) (K := K) (Mo.sm j3 s0) H (fun v2 M4 jj H => ?_))
      have j4 : Sm M M4 := Sm.tr j3 jj
      show Go X (d + K + 9) mc ms kX9_law Q 78 [(0, .ref a0)] [.int (v2)] M4 0 0
      exact g_iret dX9_law_78 rfl (Nat.zero_le _) (Nat.zero_le _) (hR _ _ j4 H)
    · skip
      replace H := H.2 c2
      refine g_aload_n 0 34 dX9_law_33 rfl rfl ?_
      refine g_bipush ((-6)) 36 dX9_law_34 rfl rfl ?_
      refine g_callV (mc1 := 0) (ms1 := 0) (b := a0) (rest := []) (av := [.int ((-6))]) kX9_refuses 39 dX9_law_36 rfl rfl mbX9_103 imX9_refuses seX9_refuses gcl9.1 (Sm.k j1 s0.1) (Nat.le_of_ble_eq_true rfl) (Nat.zero_le _) (Nat.zero_le _) (uX9_refuses (N := N) (K := K) (Mo.sm j1 s0) H (fun v3 M5 jj H => ?_))
      have j5 : Sm M M5 := Sm.tr j1 jj
      show Go X (d + K + 9) mc ms kX9_law Q 39 [(0, .ref a0)] [.int (v3)] M5 0 0
      exact g_iret dX9_law_39 rfl (Nat.zero_le _) (Nat.zero_le _) (hR _ _ j5 H)
  · skip
    replace H := H.2 c1
    refine g_aload_n 0 14 dX9_law_13 rfl rfl ?_
    refine g_iconst (0) 15 dX9_law_14 rfl rfl ?_
    refine g_putI 18 dX9_law_15 rfl flX9_157 s0.1 ?_
    generalize hM6 : (g_wi M a0 13 0) = M6
    have j6 : Sm M M6 := by rw [← hM6]; exact (Sm.wi Sm.rf)
    replace H := H M6 hM6.symm
    refine g_aload_n 0 19 dX9_law_18 rfl rfl ?_
    refine g_bipush ((-5)) 21 dX9_law_19 rfl rfl ?_
    refine g_callV (mc1 := 0) (ms1 := 0) (b := a0) (rest := []) (av := [.int ((-5))]) kX9_refuses 24 dX9_law_21 rfl rfl mbX9_103 imX9_refuses seX9_refuses gcl9.1 (Sm.k j6 s0.1) (Nat.le_of_ble_eq_true rfl) (Nat.zero_le _) (Nat.zero_le _) (uX9_refuses (N := N) (K := K) (Mo.sm j6 s0) H (fun v4 M7 jj H => ?_))
    have j7 : Sm M M7 := Sm.tr j6 jj
    show Go X (d + K + 9) mc ms kX9_law Q 24 [(0, .ref a0)] [.int (v4)] M7 0 0
    exact g_iret dX9_law_24 rfl (Nat.zero_le _) (Nat.zero_le _) (hR _ _ j7 H)
/-! X9_tells -/
def pX9_tells_203 (N K : Nat) (kp : Nat → gM → Nat → Int32 → Int64 → Prop) (R : Int32 → gM → Prop) (M : gM) (a0 : Nat) (x1 : Int32) (y3 : Int64) : Prop := ∀ M1 : gM, M1 = (g_wi M a0 22 ((g_mi M a0 22) + 1)) → kp 0 M1 a0 x1 y3
def pX9_tells_144 (N K : Nat) (kp : Nat → gM → Nat → Int32 → Int64 → Prop) (R : Int32 → gM → Prop) (M : gM) (a0 : Nat) (x1 : Int32) (y3 : Int64) (x5 : Int32) (y6 : Int64) (x8 : Int32) : Prop := ((¬ x5 = x1 → pX9_tells_203 N K kp R M a0 x1 y3) ∧ (x5 = x1 → ((¬ (g_mi M a0 24) = 0 → pX9_tells_203 N K kp R M a0 x1 y3) ∧ ((g_mi M a0 24) = 0 → ((¬ x8 = 0 → pX9_tells_203 N K kp R M a0 x1 y3) ∧ (x8 = 0 → ((0 ≤ (lg_cmp y6 0) → (((lg_cmp y6 99) ≤ 0 → pX9_tells_203 N K kp R M a0 x1 y6) ∧ (¬ (lg_cmp y6 99) ≤ 0 → pX9_tells_203 N K kp R M a0 x1 99))) ∧ (¬ 0 ≤ (lg_cmp y6 0) → pX9_tells_203 N K kp R M a0 x1 0))))))))
def pX9_tells_0 (N K : Nat) (kp : Nat → gM → Nat → Int32 → Int64 → Prop) (R : Int32 → gM → Prop) (M : gM) (a0 : Nat) (x1 : Int32) (x2 : Int32) : Prop := ((¬ (g_mi M (a0 + 2) 204) = (-1) → ∀ M1 : gM, M1 = (g_wi M a0 25 0) → ∀ M2 : gM, M2 = (g_wi M1 a0 22 (400 * (g_mi M1 (a0 + 2) 204))) → (vp_in ((205 + (g_mi M2 (a0 + 2) 204))) 5812) ∧ ∀ M3 : gM, M3 = (g_wi M2 a0 23 ((g_mi M2 a0 22) + (g_mi M2 (a0 + 2) ((205 + (g_mi M2 (a0 + 2) 204))).toNatClampNeg))) → kp 0 M3 a0 x1 ((x2 : Int32).toInt64)) ∧ ((g_mi M (a0 + 2) 204) = (-1) → R x2 M))
def pX9_tells_64 (N K : Nat) (kp : Nat → gM → Nat → Int32 → Int64 → Prop) (R : Int32 → gM → Prop) (M : gM) (a0 : Nat) (x1 : Int32) (y3 : Int64) : Prop := (((g_mi M a0 23) ≤ (g_mi M a0 22) → R ((y3 : Int64).toInt32) M) ∧ (¬ (g_mi M a0 23) ≤ (g_mi M a0 22) → (EX9_codeAt M a0 (g_mi M a0 22)) ∧ ∀ v1 : Int32, v1 = (fX9_codeAt M a0 (g_mi M a0 22)) → ∀ M1 : gM, M1 = (g_wi M a0 24 0) → ∀ M2 : gM, M2 = (g_wi M1 a0 22 ((g_mi M1 a0 22) + 1)) → ((¬ v1 = 2 → pX9_sumOf N K M2 a0 1 (fun v2 M3 => ∀ M4 : gM, M4 = (g_wi M3 a0 24 0) → pX9_passes0 N K M4 a0 3 (fun v3 M5 => ((v3 = 0 → pX9_tells_144 N K kp R M5 a0 x1 y3 v1 v2 (g_mi M3 a0 24)) ∧ (¬ v3 = 0 → pX9_testOf N K M5 a0 1 (fun v4 M6 => ((v4 = 0 → ((¬ v1 = x1 → pX9_tells_203 N K kp R M6 a0 x1 y3) ∧ (v1 = x1 → pX9_tells_203 N K kp R M6 a0 x1 y3))) ∧ (¬ v4 = 0 → pX9_tells_144 N K kp R M6 a0 x1 y3 v1 v2 (g_mi M3 a0 24))))))))) ∧ (v1 = 2 → ∀ M7 : gM, M7 = (g_wi M2 a0 24 0) → pX9_passes0 N K M7 a0 3 (fun v5 M8 => ((v5 = 0 → pX9_tells_144 N K kp R M8 a0 x1 y3 v1 1 (g_mi M2 a0 24)) ∧ (¬ v5 = 0 → pX9_testOf N K M8 a0 1 (fun v6 M9 => ((v6 = 0 → ((¬ v1 = x1 → pX9_tells_203 N K kp R M9 a0 x1 y3) ∧ (v1 = x1 → pX9_tells_203 N K kp R M9 a0 x1 y3))) ∧ (¬ v6 = 0 → pX9_tells_144 N K kp R M9 a0 x1 y3 v1 1 (g_mi M2 a0 24)))))))))))
def qX9_tells (N K : Nat) (R : Int32 → gM → Prop) : Nat → Nat → gM → Nat → Int32 → Int64 → Prop
  | 0, _, _, _, _, _ => False
  | n + 1, _, M, a0, x1, y3 => pX9_tells_64 N K (qX9_tells N K R n) R M a0 x1 y3
def pX9_tells (N K : Nat) (M : gM) (a0 : Nat) (x1 : Int32) (x2 : Int32) (R : Int32 → gM → Prop) : Prop := pX9_tells_0 N K (qX9_tells N K R N) R M a0 x1 x2
def ULX9_tells (X : gX) (d mc ms : Nat) (Q : Option Value → gM → Prop) (N K : Nat) (R : Int32 → gM → Prop) (n : Nat) : Prop := (∀ (M : gM) (a0 : Nat) (x1 : Int32) (y3 : Int64), Mo M a0 → qX9_tells N K R n 0 M a0 x1 y3 → (∀ (v : Int32) (M1 : gM), Sm M M1 → R v M1 → Q (some (.int v)) M1) → Go X (d + K + 7) mc ms kX9_tells Q 64 [(0, .ref a0), (1, .int (x1)), (3, .long (y3))] [] M 0 0)
set_option maxRecDepth 10000 in
theorem uxX9_tells_203 {N K : Nat} {X : gX} {d mc ms : Nat} {Q : Option Value → gM → Prop} {R : Int32 → gM → Prop} {n : Nat} (ih : ULX9_tells X d mc ms Q N K R n) {M : gM} {a0 : Nat} {x1 : Int32} {y3 : Int64} (s0 : Mo M a0) (H : pX9_tells_203 N K (qX9_tells N K R n) R M a0 x1 y3) (hR : ∀ (v : Int32) (M1 : gM), Sm M M1 → R v M1 → Q (some (.int v)) M1) : Go X (d + K + 7) mc ms kX9_tells Q 203 [(0, .ref a0), (1, .int (x1)), (3, .long (y3))] [] M 0 0 := by
  unfold pX9_tells_203 at H
  refine g_aload_n 0 204 dX9_tells_203 rfl rfl ?_
  refine g_dup 205 dX9_tells_204 rfl rfl ?_
  refine g_getI 208 dX9_tells_205 rfl flX9_269 s0.1 ?_
  refine g_iconst (1) 209 dX9_tells_208 rfl rfl ?_
  refine g_iadd 210 dX9_tells_209 rfl ?_
  refine g_putI 213 dX9_tells_210 rfl flX9_269 s0.1 ?_
  generalize hM1 : (g_wi M a0 22 ((g_mi M a0 22) + 1)) = M1
  have j1 : Sm M M1 := by rw [← hM1]; exact (Sm.wi Sm.rf)
  replace H := H M1 hM1.symm
  refine g_goto 64 dX9_tells_213 rfl ?_
  exact ih M1 a0 x1 y3 (Mo.sm j1 s0) H (fun v M1 j r => hR v M1 (Sm.tr j1 j) r)
set_option maxRecDepth 10000 in
theorem uxX9_tells_144 {N K : Nat} {X : gX} {d mc ms : Nat} {Q : Option Value → gM → Prop} {R : Int32 → gM → Prop} {n : Nat} (ih : ULX9_tells X d mc ms Q N K R n) {M : gM} {a0 : Nat} {x1 : Int32} {y3 : Int64} {x5 : Int32} {y6 : Int64} {x8 : Int32} (s0 : Mo M a0) (H : pX9_tells_144 N K (qX9_tells N K R n) R M a0 x1 y3 x5 y6 x8) (hR : ∀ (v : Int32) (M1 : gM), Sm M M1 → R v M1 → Q (some (.int v)) M1) : Go X (d + K + 7) mc ms kX9_tells Q 144 [(0, .ref a0), (1, .int (x1)), (3, .long (y3)), (5, .int (x5)), (6, .long (y6)), (8, .int (x8))] [] M 0 0 := by
  unfold pX9_tells_144 at H
  refine g_iconst (1) 145 dX9_tells_144 rfl rfl ?_
  refine g_goto 149 dX9_tells_145 rfl ?_
  refine g_istore 151 [(9, .int (1)), (0, .ref a0), (1, .int (x1)), (3, .long (y3)), (5, .int (x5)), (6, .long (y6)), (8, .int (x8))] dX9_tells_149 rfl (Nat.le_of_ble_eq_true rfl) rfl ?_
  refine g_iload 4 153 dX9_tells_151 rfl rfl ?_
  refine g_iload_n 2 154 dX9_tells_153 rfl rfl ?_
  refine g_icmp_ne 203 157 dX9_tells_154 rfl rfl (fun c1 => ?_) (fun c1 => ?_)
  · skip
    replace H := H.1 c1
    exact g_sub [1, 2, 3] _ rfl (uxX9_tells_203 (N := N) (K := K) ih s0 H (fun v M1 j r => hR v M1 j r))
  · skip
    replace H := H.2 c1
    refine g_iload 0 159 dX9_tells_157 rfl rfl ?_
    refine g_if_eq 203 162 dX9_tells_159 rfl rfl (fun q => absurd q (by decide)) (fun _ => ?_)
    refine g_aload_n 1 163 dX9_tells_162 rfl rfl ?_
    refine g_getI 166 dX9_tells_163 rfl flX9_279 s0.1 ?_
    refine g_if_ne 203 169 dX9_tells_166 rfl rfl (fun c2 => ?_) (fun c2 => ?_)
    · skip
      replace H := H.1 c2
      exact g_sub [1, 2, 3] _ rfl (uxX9_tells_203 (N := N) (K := K) ih s0 H (fun v M1 j r => hR v M1 j r))
    · skip
      replace H := H.2 c2
      refine g_iload 6 171 dX9_tells_169 rfl rfl ?_
      refine g_if_ne 203 174 dX9_tells_171 rfl rfl (fun c3 => ?_) (fun c3 => ?_)
      · skip
        replace H := H.1 c3
        exact g_sub [1, 2, 3] _ rfl (uxX9_tells_203 (N := N) (K := K) ih s0 H (fun v M1 j r => hR v M1 j r))
      · skip
        replace H := H.2 c3
        refine g_lload 5 176 dX9_tells_174 rfl rfl ?_
        refine g_lconst (0) 177 dX9_tells_176 rfl rfl ?_
        refine g_lcmp 178 dX9_tells_177 rfl ?_
        refine g_if_ge 185 181 dX9_tells_178 rfl rfl (fun c4 => ?_) (fun c4 => ?_)
        · skip
          replace H := H.1 c4
          refine g_lload 5 187 dX9_tells_185 rfl rfl ?_
          refine g_ldc2 (99) 190 dX9_tells_187 rfl q6_54 ?_
          refine g_lcmp 191 dX9_tells_190 rfl ?_
          refine g_if_le 200 194 dX9_tells_191 rfl rfl (fun c5 => ?_) (fun c5 => ?_)
          · skip
            replace H := H.1 c5
            refine g_lload 5 202 dX9_tells_200 rfl rfl ?_
            refine g_lstore_n 203 [(3, .long (y6)), (9, .int (1)), (0, .ref a0), (1, .int (x1)), (5, .int (x5)), (6, .long (y6)), (8, .int (x8))] dX9_tells_202 rfl (Nat.le_of_ble_eq_true rfl) rfl ?_
            exact g_sub [2, 3, 0] _ rfl (uxX9_tells_203 (N := N) (K := K) ih s0 H (fun v M1 j r => hR v M1 j r))
          · skip
            replace H := H.2 c5
            refine g_ldc2 (99) 197 dX9_tells_194 rfl q6_54 ?_
            refine g_goto 202 dX9_tells_197 rfl ?_
            refine g_lstore_n 203 [(3, .long (99)), (9, .int (1)), (0, .ref a0), (1, .int (x1)), (5, .int (x5)), (6, .long (y6)), (8, .int (x8))] dX9_tells_202 rfl (Nat.le_of_ble_eq_true rfl) rfl ?_
            exact g_sub [2, 3, 0] _ rfl (uxX9_tells_203 (N := N) (K := K) ih s0 H (fun v M1 j r => hR v M1 j r))
        · skip
          replace H := H.2 c4
          refine g_lconst (0) 182 dX9_tells_181 rfl rfl ?_
          refine g_goto 202 dX9_tells_182 rfl ?_
          refine g_lstore_n 203 [(3, .long (0)), (9, .int (1)), (0, .ref a0), (1, .int (x1)), (5, .int (x5)), (6, .long (y6)), (8, .int (x8))] dX9_tells_202 rfl (Nat.le_of_ble_eq_true rfl) rfl ?_
          exact g_sub [2, 3, 0] _ rfl (uxX9_tells_203 (N := N) (K := K) ih s0 H (fun v M1 j r => hR v M1 j r))
set_option maxRecDepth 10000 in
theorem ulX9_tells {X : gX} {d mc ms : Nat} {Q : Option Value → gM → Prop} {N K : Nat} {R : Int32 → gM → Prop} : ∀ n : Nat, ULX9_tells X d mc ms Q N K R n := by
  intro n
  induction n with
  | zero => exact fun _ _ _ _ _ h _ => h.elim
  | succ n ih =>
    intro M a0 x1 y3 s0 H hR
    rw [qX9_tells] at H
    unfold pX9_tells_64 at H
    refine g_aload_n 0 65 dX9_tells_64 rfl rfl ?_
    refine g_getI 68 dX9_tells_65 rfl flX9_269 s0.1 ?_
    refine g_aload_n 0 69 dX9_tells_68 rfl rfl ?_
    refine g_getI 72 dX9_tells_69 rfl flX9_266 s0.1 ?_
    refine g_icmp_ge 216 75 dX9_tells_72 rfl rfl (fun c1 => ?_) (fun c1 => ?_)
    · skip
      replace H := H.1 c1
      refine g_lload_n 2 217 dX9_tells_216 rfl rfl ?_
      refine g_l2i 218 dX9_tells_217 rfl ?_
      exact g_iret dX9_tells_218 rfl (Nat.zero_le _) (Nat.zero_le _) (hR _ _ Sm.rf H)
    · skip
      replace H := H.2 c1
      refine g_aload_n 0 76 dX9_tells_75 rfl rfl ?_
      refine g_aload_n 0 77 dX9_tells_76 rfl rfl ?_
      refine g_getI 80 dX9_tells_77 rfl flX9_269 s0.1 ?_
      obtain ⟨b1, H⟩ := H
      refine g_callV (mc1 := 0) (ms1 := 0) (b := a0) (rest := []) (av := [.int ((g_mi M a0 22))]) kX9_codeAt 83 dX9_tells_80 rfl rfl mbX9_272 imX9_codeAt seX9_codeAt gcl9.1 s0.1 (Nat.le_of_ble_eq_true rfl) (Nat.zero_le _) (Nat.zero_le _) (tX9_codeAt s0 b1 ?_)
      show Go X (d + K + 7) mc ms kX9_tells Q 83 [(0, .ref a0), (1, .int (x1)), (3, .long (y3))] [.int ((fX9_codeAt M a0 (g_mi M a0 22)))] M 0 0
      generalize hv1 : (fX9_codeAt M a0 (g_mi M a0 22)) = v1
      replace H := H v1 hv1.symm
      refine g_istore 85 [(5, .int (v1)), (0, .ref a0), (1, .int (x1)), (3, .long (y3))] dX9_tells_83 rfl (Nat.le_of_ble_eq_true rfl) rfl ?_
      refine g_aload_n 1 86 dX9_tells_85 rfl rfl ?_
      refine g_iconst (0) 87 dX9_tells_86 rfl rfl ?_
      refine g_putZ 90 dX9_tells_87 rfl flX9_279 s0.1 (by decide) ?_
      generalize hM1 : (g_wi M a0 24 0) = M1
      have j1 : Sm M M1 := by rw [← hM1]; exact (Sm.wi Sm.rf)
      replace H := H M1 hM1.symm
      refine g_aload_n 1 91 dX9_tells_90 rfl rfl ?_
      refine g_dup 92 dX9_tells_91 rfl rfl ?_
      refine g_getI 95 dX9_tells_92 rfl flX9_269 (Sm.k j1 s0.1) ?_
      refine g_iconst (1) 96 dX9_tells_95 rfl rfl ?_
      refine g_iadd 97 dX9_tells_96 rfl ?_
      refine g_putI 100 dX9_tells_97 rfl flX9_269 (Sm.k j1 s0.1) ?_
      generalize hM2 : (g_wi M1 a0 22 ((g_mi M1 a0 22) + 1)) = M2
      have j2 : Sm M M2 := by rw [← hM2]; exact (Sm.wi j1)
      replace H := H M2 hM2.symm
      refine g_iload 0 102 dX9_tells_100 rfl rfl ?_
      refine g_iconst (2) 103 dX9_tells_102 rfl rfl ?_
      refine g_icmp_ne 110 106 dX9_tells_103 rfl rfl (fun c2 => ?_) (fun c2 => ?_)
      · skip
        replace H := H.1 c2
        refine g_aload_n 1 111 dX9_tells_110 rfl rfl ?_
        refine g_iconst (1) 112 dX9_tells_111 rfl rfl ?_
        refine g_callV (mc1 := 0) (ms1 := 0) (b := a0) (rest := []) (av := [.int (1)]) kX9_sumOf 115 dX9_tells_112 rfl rfl mbX9_296 imX9_sumOf seX9_sumOf gcl9.1 (Sm.k j2 s0.1) (Nat.le_of_ble_eq_true rfl) (Nat.zero_le _) (Nat.zero_le _) (uX9_sumOf (N := N) (K := K) (Mo.sm j2 s0) H (fun v2 M3 jj H => ?_))
        have j3 : Sm M M3 := Sm.tr j2 jj
        show Go X (d + K + 7) mc ms kX9_tells Q 115 [(5, .int (v1)), (0, .ref a0), (1, .int (x1)), (3, .long (y3))] [.long (v2)] M3 0 0
        refine g_lstore 117 [(6, .long (v2)), (5, .int (v1)), (0, .ref a0), (1, .int (x1)), (3, .long (y3))] dX9_tells_115 rfl (Nat.le_of_ble_eq_true rfl) rfl ?_
        refine g_aload_n 2 118 dX9_tells_117 rfl rfl ?_
        refine g_getI 121 dX9_tells_118 rfl flX9_279 (Sm.k j3 s0.1) ?_
        refine g_istore 123 [(8, .int ((g_mi M3 a0 24))), (6, .long (v2)), (5, .int (v1)), (0, .ref a0), (1, .int (x1)), (3, .long (y3))] dX9_tells_121 rfl (Nat.le_of_ble_eq_true rfl) rfl ?_
        refine g_aload_n 3 124 dX9_tells_123 rfl rfl ?_
        refine g_iconst (0) 125 dX9_tells_124 rfl rfl ?_
        refine g_putZ 128 dX9_tells_125 rfl flX9_279 (Sm.k j3 s0.1) (by decide) ?_
        generalize hM4 : (g_wi M3 a0 24 0) = M4
        have j4 : Sm M M4 := by rw [← hM4]; exact (Sm.wi j3)
        replace H := H M4 hM4.symm
        refine g_aload_n 3 129 dX9_tells_128 rfl rfl ?_
        refine g_iconst (3) 130 dX9_tells_129 rfl rfl ?_
        refine g_callV (mc1 := 0) (ms1 := 0) (b := a0) (rest := []) (av := [.int (3)]) kX9_passes0 133 dX9_tells_130 rfl rfl mbX9_293 imX9_passes0 seX9_passes0 gcl9.1 (Sm.k j4 s0.1) (Nat.le_of_ble_eq_true rfl) (Nat.zero_le _) (Nat.zero_le _) (uX9_passes0 (N := N) (K := K) (Mo.sm j4 s0) H (fun v3 M5 jj H => ?_))
        have j5 : Sm M M5 := Sm.tr j4 jj
        show Go X (d + K + 7) mc ms kX9_tells Q 133 [(8, .int ((g_mi M3 a0 24))), (6, .long (v2)), (5, .int (v1)), (0, .ref a0), (1, .int (x1)), (3, .long (y3))] [.int (v3)] M5 0 0
        refine g_if_eq 144 136 dX9_tells_133 rfl rfl (fun c3 => ?_) (fun c3 => ?_)
        · skip
          replace H := H.1 c3
          exact g_sub [3, 4, 5, 2, 1, 0] _ rfl (uxX9_tells_144 (N := N) (K := K) ih (Mo.sm j5 s0) H (fun v M1 j r => hR v M1 (Sm.tr j5 j) r))
        · skip
          replace H := H.2 c3
          refine g_aload_n 3 137 dX9_tells_136 rfl rfl ?_
          refine g_iconst (1) 138 dX9_tells_137 rfl rfl ?_
          refine g_callV (mc1 := 0) (ms1 := 0) (b := a0) (rest := []) (av := [.int (1)]) kX9_testOf 141 dX9_tells_138 rfl rfl mbX9_323 imX9_testOf seX9_testOf gcl9.1 (Sm.k j5 s0.1) (Nat.le_of_ble_eq_true rfl) (Nat.zero_le _) (Nat.zero_le _) (uX9_testOf (N := N) (K := K) (Mo.sm j5 s0) H (fun v4 M6 jj H => ?_))
          have j6 : Sm M M6 := Sm.tr j5 jj
          show Go X (d + K + 7) mc ms kX9_tells Q 141 [(8, .int ((g_mi M3 a0 24))), (6, .long (v2)), (5, .int (v1)), (0, .ref a0), (1, .int (x1)), (3, .long (y3))] [.int (v4)] M6 0 0
          refine g_if_eq 148 144 dX9_tells_141 rfl rfl (fun c4 => ?_) (fun c4 => ?_)
          · skip
            replace H := H.1 c4
            refine g_iconst (0) 149 dX9_tells_148 rfl rfl ?_
            refine g_istore 151 [(9, .int (0)), (8, .int ((g_mi M3 a0 24))), (6, .long (v2)), (5, .int (v1)), (0, .ref a0), (1, .int (x1)), (3, .long (y3))] dX9_tells_149 rfl (Nat.le_of_ble_eq_true rfl) rfl ?_
            refine g_iload 3 153 dX9_tells_151 rfl rfl ?_
            refine g_iload_n 5 154 dX9_tells_153 rfl rfl ?_
            refine g_icmp_ne 203 157 dX9_tells_154 rfl rfl (fun c5 => ?_) (fun c5 => ?_)
            · skip
              replace H := H.1 c5
              exact g_sub [4, 5, 6] _ rfl (uxX9_tells_203 (N := N) (K := K) ih (Mo.sm j6 s0) H (fun v M1 j r => hR v M1 (Sm.tr j6 j) r))
            · skip
              replace H := H.2 c5
              refine g_iload 0 159 dX9_tells_157 rfl rfl ?_
              refine g_if_eq 203 162 dX9_tells_159 rfl rfl (fun _ => ?_) (fun q => absurd q (by decide))
              exact g_sub [4, 5, 6] _ rfl (uxX9_tells_203 (N := N) (K := K) ih (Mo.sm j6 s0) H (fun v M1 j r => hR v M1 (Sm.tr j6 j) r))
          · skip
            replace H := H.2 c4
            exact g_sub [3, 4, 5, 2, 1, 0] _ rfl (uxX9_tells_144 (N := N) (K := K) ih (Mo.sm j6 s0) H (fun v M1 j r => hR v M1 (Sm.tr j6 j) r))
      · skip
        replace H := H.2 c2
        refine g_lconst (1) 107 dX9_tells_106 rfl rfl ?_
        refine g_goto 115 dX9_tells_107 rfl ?_
        refine g_lstore 117 [(6, .long (1)), (5, .int (v1)), (0, .ref a0), (1, .int (x1)), (3, .long (y3))] dX9_tells_115 rfl (Nat.le_of_ble_eq_true rfl) rfl ?_
        refine g_aload_n 2 118 dX9_tells_117 rfl rfl ?_
        refine g_getI 121 dX9_tells_118 rfl flX9_279 (Sm.k j2 s0.1) ?_
        refine g_istore 123 [(8, .int ((g_mi M2 a0 24))), (6, .long (1)), (5, .int (v1)), (0, .ref a0), (1, .int (x1)), (3, .long (y3))] dX9_tells_121 rfl (Nat.le_of_ble_eq_true rfl) rfl ?_
        refine g_aload_n 3 124 dX9_tells_123 rfl rfl ?_
        refine g_iconst (0) 125 dX9_tells_124 rfl rfl ?_
        refine g_putZ 128 dX9_tells_125 rfl flX9_279 (Sm.k j2 s0.1) (by decide) ?_
        generalize hM7 : (g_wi M2 a0 24 0) = M7
        have j7 : Sm M M7 := by rw [← hM7]; exact (Sm.wi j2)
        replace H := H M7 hM7.symm
        refine g_aload_n 3 129 dX9_tells_128 rfl rfl ?_
        refine g_iconst (3) 130 dX9_tells_129 rfl rfl ?_
        refine g_callV (mc1 := 0) (ms1 := 0) (b := a0) (rest := []) (av := [.int (3)]) kX9_passes0 133 dX9_tells_130 rfl rfl mbX9_293 imX9_passes0 seX9_passes0 gcl9.1 (Sm.k j7 s0.1) (Nat.le_of_ble_eq_true rfl) (Nat.zero_le _) (Nat.zero_le _) (uX9_passes0 (N := N) (K := K) (Mo.sm j7 s0) H (fun v5 M8 jj H => ?_))
        have j8 : Sm M M8 := Sm.tr j7 jj
        show Go X (d + K + 7) mc ms kX9_tells Q 133 [(8, .int ((g_mi M2 a0 24))), (6, .long (1)), (5, .int (v1)), (0, .ref a0), (1, .int (x1)), (3, .long (y3))] [.int (v5)] M8 0 0
        refine g_if_eq 144 136 dX9_tells_133 rfl rfl (fun c6 => ?_) (fun c6 => ?_)
        · skip
          replace H := H.1 c6
          exact g_sub [3, 4, 5, 2, 1, 0] _ rfl (uxX9_tells_144 (N := N) (K := K) ih (Mo.sm j8 s0) H (fun v M1 j r => hR v M1 (Sm.tr j8 j) r))
        · skip
          replace H := H.2 c6
          refine g_aload_n 3 137 dX9_tells_136 rfl rfl ?_
          refine g_iconst (1) 138 dX9_tells_137 rfl rfl ?_
          refine g_callV (mc1 := 0) (ms1 := 0) (b := a0) (rest := []) (av := [.int (1)]) kX9_testOf 141 dX9_tells_138 rfl rfl mbX9_323 imX9_testOf seX9_testOf gcl9.1 (Sm.k j8 s0.1) (Nat.le_of_ble_eq_true rfl) (Nat.zero_le _) (Nat.zero_le _) (uX9_testOf (N := N) (K := K) (Mo.sm j8 s0) H (fun v6 M9 jj H => ?_))
          have j9 : Sm M M9 := Sm.tr j8 jj
          show Go X (d + K + 7) mc ms kX9_tells Q 141 [(8, .int ((g_mi M2 a0 24))), (6, .long (1)), (5, .int (v1)), (0, .ref a0), (1, .int (x1)), (3, .long (y3))] [.int (v6)] M9 0 0
          refine g_if_eq 148 144 dX9_tells_141 rfl rfl (fun c7 => ?_) (fun c7 => ?_)
          · skip
            replace H := H.1 c7
            refine g_iconst (0) 149 dX9_tells_148 rfl rfl ?_
            refine g_istore 151 [(9, .int (0)), (8, .int ((g_mi M2 a0 24))), (6, .long (1)), (5, .int (v1)), (0, .ref a0), (1, .int (x1)), (3, .long (y3))] dX9_tells_149 rfl (Nat.le_of_ble_eq_true rfl) rfl ?_
            refine g_iload 3 153 dX9_tells_151 rfl rfl ?_
            refine g_iload_n 5 154 dX9_tells_153 rfl rfl ?_
            refine g_icmp_ne 203 157 dX9_tells_154 rfl rfl (fun c8 => ?_) (fun c8 => ?_)
            · skip
              replace H := H.1 c8
              exact g_sub [4, 5, 6] _ rfl (uxX9_tells_203 (N := N) (K := K) ih (Mo.sm j9 s0) H (fun v M1 j r => hR v M1 (Sm.tr j9 j) r))
            · skip
              replace H := H.2 c8
              refine g_iload 0 159 dX9_tells_157 rfl rfl ?_
              refine g_if_eq 203 162 dX9_tells_159 rfl rfl (fun _ => ?_) (fun q => absurd q (by decide))
              exact g_sub [4, 5, 6] _ rfl (uxX9_tells_203 (N := N) (K := K) ih (Mo.sm j9 s0) H (fun v M1 j r => hR v M1 (Sm.tr j9 j) r))
          · skip
            replace H := H.2 c7
            exact g_sub [3, 4, 5, 2, 1, 0] _ rfl (uxX9_tells_144 (N := N) (K := K) ih (Mo.sm j9 s0) H (fun v M1 j r => hR v M1 (Sm.tr j9 j) r))
set_option maxRecDepth 10000 in
theorem uX9_tells {N K : Nat} {X : gX} {d mc ms : Nat} {Q : Option Value → gM → Prop} {M : gM} {a0 : Nat} {x1 : Int32} {x2 : Int32} {R : Int32 → gM → Prop} (s0 : Mo M a0) (H : pX9_tells N K M a0 x1 x2 R) (hR : ∀ (v : Int32) (M1 : gM), Sm M M1 → R v M1 → Q (some (.int v)) M1) : Cn X (d + K + 7) mc ms kX9_tells [.ref a0, .int (x1), .int (x2)] M Q := by
  have ih := ulX9_tells (X := X) (d := d) (mc := mc) (ms := ms) (Q := Q) (N := N) (K := K) (R := R) N
  unfold pX9_tells pX9_tells_0 at H
  refine g_meth rfl rfl (Nat.le_of_ble_eq_true rfl) rfl ?_
  refine g_aload_n 0 1 dX9_tells_0 rfl rfl ?_
  refine g_getR 4 (a0 + 2) dX9_tells_1 rfl flX9_28 s0.1 s0.2.2.2.1 ?_
  refine g_sipush (204) 7 dX9_tells_4 rfl rfl ?_
  refine h_iaload 8 204 dX9_tells_7 rfl rfl s0.2.2.2.2.1 (vp_lit rfl) ?_
  refine g_iconst ((-1)) 9 dX9_tells_8 rfl rfl ?_
  refine g_icmp_ne 14 12 dX9_tells_9 rfl rfl (fun c1 => ?_) (fun c1 => ?_)
  · skip
    replace H := H.1 c1
    refine g_aload_n 0 15 dX9_tells_14 rfl rfl ?_
    refine g_iconst (0) 16 dX9_tells_15 rfl rfl ?_
    refine g_putZ 19 dX9_tells_16 rfl flX9_299 s0.1 (by decide) ?_
    generalize hM1 : (g_wi M a0 25 0) = M1
    have j1 : Sm M M1 := by rw [← hM1]; exact (Sm.wi Sm.rf)
    replace H := H M1 hM1.symm
    refine g_iload_n 2 20 dX9_tells_19 rfl rfl ?_
    refine g_i2l 21 dX9_tells_20 rfl ?_
    refine g_lstore_n 22 [(3, .long (((x2 : Int32).toInt64))), (0, .ref a0), (1, .int (x1)), (2, .int (x2))] dX9_tells_21 rfl (Nat.le_of_ble_eq_true rfl) rfl ?_
    refine g_aload_n 1 23 dX9_tells_22 rfl rfl ?_
    refine g_sipush (400) 26 dX9_tells_23 rfl rfl ?_
    refine g_aload_n 1 27 dX9_tells_26 rfl rfl ?_
    refine g_getR 30 (a0 + 2) dX9_tells_27 rfl flX9_28 (Sm.k j1 s0.1) (Sm.r j1 s0.2.2.2.1) ?_
    refine g_sipush (204) 33 dX9_tells_30 rfl rfl ?_
    refine h_iaload 34 204 dX9_tells_33 rfl rfl (Sm.k j1 s0.2.2.2.2.1) (vp_lit rfl) ?_
    refine g_imul 35 dX9_tells_34 rfl ?_
    refine g_putI 38 dX9_tells_35 rfl flX9_269 (Sm.k j1 s0.1) ?_
    generalize hM2 : (g_wi M1 a0 22 (400 * (g_mi M1 (a0 + 2) 204))) = M2
    have j2 : Sm M M2 := by rw [← hM2]; exact (Sm.wi j1)
    replace H := H M2 hM2.symm
    refine g_aload_n 1 39 dX9_tells_38 rfl rfl ?_
    refine g_aload_n 1 40 dX9_tells_39 rfl rfl ?_
    refine g_getI 43 dX9_tells_40 rfl flX9_269 (Sm.k j2 s0.1) ?_
    refine g_aload_n 1 44 dX9_tells_43 rfl rfl ?_
    refine g_getR 47 (a0 + 2) dX9_tells_44 rfl flX9_28 (Sm.k j2 s0.1) (Sm.r j2 s0.2.2.2.1) ?_
    refine g_sipush (205) 50 dX9_tells_47 rfl rfl ?_
    refine g_aload_n 1 51 dX9_tells_50 rfl rfl ?_
    refine g_getR 54 (a0 + 2) dX9_tells_51 rfl flX9_28 (Sm.k j2 s0.1) (Sm.r j2 s0.2.2.2.1) ?_
    refine g_sipush (204) 57 dX9_tells_54 rfl rfl ?_
    refine h_iaload 58 204 dX9_tells_57 rfl rfl (Sm.k j2 s0.2.2.2.2.1) (vp_lit rfl) ?_
    refine g_iadd 59 dX9_tells_58 rfl ?_
    obtain ⟨b1, H⟩ := H
    refine h_iaload 60 ((205 + (g_mi M2 (a0 + 2) 204))).toNatClampNeg dX9_tells_59 rfl rfl (Sm.k j2 s0.2.2.2.2.1) b1 ?_
    refine g_iadd 61 dX9_tells_60 rfl ?_
    refine g_putI 64 dX9_tells_61 rfl flX9_266 (Sm.k j2 s0.1) ?_
    generalize hM3 : (g_wi M2 a0 23 ((g_mi M2 a0 22) + (g_mi M2 (a0 + 2) ((205 + (g_mi M2 (a0 + 2) 204))).toNatClampNeg))) = M3
    have j3 : Sm M M3 := by rw [← hM3]; exact (Sm.wi j2)
    replace H := H M3 hM3.symm
    exact g_sub [1, 2, 0] _ rfl (ih M3 a0 x1 ((x2 : Int32).toInt64) (Mo.sm j3 s0) H (fun v M1 j r => hR v M1 (Sm.tr j3 j) r))
  · skip
    replace H := H.2 c1
    refine g_iload_n 2 13 dX9_tells_12 rfl rfl ?_
    exact g_iret dX9_tells_13 rfl (Nat.zero_le _) (Nat.zero_le _) (hR _ _ Sm.rf H)
/-! X9_ranksOf -/
def pX9_ranksOf (N K : Nat) (M : gM) (a0 : Nat) (x1 : Int32) (x2 : Int32) (R : Int32 → gM → Prop) : Prop := (¬ ((g_mi M (a0 + 2) 31) : Int32) = 0) ∧ (EX9_degreeOf N M a0 x1 x2) ∧ ∀ v1 : Int32, v1 = (fX9_degreeOf N M a0 x1 x2) → pX9_setsAsked N K M a0 x1 (x1 / (g_mi M (a0 + 2) 31)) (-1) x2 v1 (fun M1 => pX9_tells N K M1 a0 1 0 (fun v2 M2 => R v2 M2))
set_option maxRecDepth 10000 in
theorem uX9_ranksOf {N K : Nat} {X : gX} {d mc ms : Nat} {Q : Option Value → gM → Prop} {M : gM} {a0 : Nat} {x1 : Int32} {x2 : Int32} {R : Int32 → gM → Prop} (s0 : Mo M a0) (H : pX9_ranksOf N K M a0 x1 x2 R) (hR : ∀ (v : Int32) (M1 : gM), Sm M M1 → R v M1 → Q (some (.int v)) M1) : Cn X (d + K + 8) mc ms kX9_ranksOf [.ref a0, .int (x1), .int (x2)] M Q := by
  unfold pX9_ranksOf at H
  refine g_meth rfl rfl (Nat.le_of_ble_eq_true rfl) rfl ?_
  refine g_aload_n 0 1 dX9_ranksOf_0 rfl rfl ?_
  refine g_iload_n 1 2 dX9_ranksOf_1 rfl rfl ?_
  refine g_iload_n 1 3 dX9_ranksOf_2 rfl rfl ?_
  refine g_aload_n 0 4 dX9_ranksOf_3 rfl rfl ?_
  refine g_getR 7 (a0 + 2) dX9_ranksOf_4 rfl flX9_28 s0.1 s0.2.2.2.1 ?_
  refine g_bipush (31) 9 dX9_ranksOf_7 rfl rfl ?_
  refine h_iaload 10 31 dX9_ranksOf_9 rfl rfl s0.2.2.2.2.1 (vp_lit rfl) ?_
  obtain ⟨b1, H⟩ := H
  refine g_idiv 11 dX9_ranksOf_10 rfl b1 ?_
  refine g_iconst ((-1)) 12 dX9_ranksOf_11 rfl rfl ?_
  refine g_iload_n 2 13 dX9_ranksOf_12 rfl rfl ?_
  refine g_aload_n 0 14 dX9_ranksOf_13 rfl rfl ?_
  refine g_iload_n 1 15 dX9_ranksOf_14 rfl rfl ?_
  refine g_iload_n 2 16 dX9_ranksOf_15 rfl rfl ?_
  obtain ⟨b2, H⟩ := H
  refine g_callV (mc1 := 0) (ms1 := 0) (b := a0) (rest := [.int (x2), .int ((-1)), .int ((x1 / (g_mi M (a0 + 2) 31))), .int (x1), .ref a0]) (av := [.int (x1), .int (x2)]) kX9_degreeOf 19 dX9_ranksOf_16 rfl rfl mbX9_140 imX9_degreeOf seX9_degreeOf gcl9.1 s0.1 (Nat.le_of_ble_eq_true rfl) (Nat.zero_le _) (Nat.zero_le _) (tX9_degreeOf (N := N) s0 b2 ?_)
  show Go X (d + K + 8) mc ms kX9_ranksOf Q 19 [(0, .ref a0), (1, .int (x1)), (2, .int (x2))] [.int ((fX9_degreeOf N M a0 x1 x2)), .int (x2), .int ((-1)), .int ((x1 / (g_mi M (a0 + 2) 31))), .int (x1), .ref a0] M 0 0
  generalize hv1 : (fX9_degreeOf N M a0 x1 x2) = v1
  replace H := H v1 hv1.symm
  refine g_callV (mc1 := 0) (ms1 := 0) (b := a0) (rest := []) (av := [.int (x1), .int ((x1 / (g_mi M (a0 + 2) 31))), .int ((-1)), .int (x2), .int (v1)]) kX9_setsAsked 22 dX9_ranksOf_19 rfl rfl mbX9_328 imX9_setsAsked seX9_setsAsked gcl9.1 s0.1 (Nat.le_of_ble_eq_true rfl) (Nat.zero_le _) (Nat.zero_le _) (uX9_setsAsked (N := N) (K := K) s0 H (fun M1 jj H => ?_))
  have j1 : Sm M M1 := jj
  show Go X (d + K + 8) mc ms kX9_ranksOf Q 22 [(0, .ref a0), (1, .int (x1)), (2, .int (x2))] [] M1 0 0
  refine g_aload_n 0 23 dX9_ranksOf_22 rfl rfl ?_
  refine g_iconst (1) 24 dX9_ranksOf_23 rfl rfl ?_
  refine g_iconst (0) 25 dX9_ranksOf_24 rfl rfl ?_
  refine g_callV (mc1 := 0) (ms1 := 0) (b := a0) (rest := []) (av := [.int (1), .int (0)]) kX9_tells 28 dX9_ranksOf_25 rfl rfl mbX9_332 imX9_tells seX9_tells gcl9.1 (Sm.k j1 s0.1) (Nat.le_of_ble_eq_true rfl) (Nat.zero_le _) (Nat.zero_le _) (uX9_tells (N := N) (K := K) (Mo.sm j1 s0) H (fun v2 M2 jj H => ?_))
  have j2 : Sm M M2 := Sm.tr j1 jj
  show Go X (d + K + 8) mc ms kX9_ranksOf Q 28 [(0, .ref a0), (1, .int (x1)), (2, .int (x2))] [.int (v2)] M2 0 0
  exact g_iret dX9_ranksOf_28 rfl (Nat.zero_le _) (Nat.zero_le _) (hR _ _ j2 H)
/-! X9_isBarred -/
def pX9_isBarred (N K : Nat) (M : gM) (a0 : Nat) (x1 : Int32) (R : Int32 → gM → Prop) : Prop := pX9_setsAsked N K M a0 (-1) (-1) x1 (g_mi M (a0 + 2) 32) (-1) (fun M1 => pX9_tells N K M1 a0 2 0 (fun v1 M2 => ((¬ v1 = 1 → R 0 M2) ∧ (v1 = 1 → R 1 M2))))
set_option maxRecDepth 10000 in
theorem uX9_isBarred {N K : Nat} {X : gX} {d mc ms : Nat} {Q : Option Value → gM → Prop} {M : gM} {a0 : Nat} {x1 : Int32} {R : Int32 → gM → Prop} (s0 : Mo M a0) (H : pX9_isBarred N K M a0 x1 R) (hR : ∀ (v : Int32) (M1 : gM), Sm M M1 → R v M1 → Q (some (.int v)) M1) : Cn X (d + K + 8) mc ms kX9_isBarred [.ref a0, .int (x1)] M Q := by
  unfold pX9_isBarred at H
  refine g_meth rfl rfl (Nat.le_of_ble_eq_true rfl) rfl ?_
  refine g_aload_n 0 1 dX9_isBarred_0 rfl rfl ?_
  refine g_iconst ((-1)) 2 dX9_isBarred_1 rfl rfl ?_
  refine g_iconst ((-1)) 3 dX9_isBarred_2 rfl rfl ?_
  refine g_iload_n 1 4 dX9_isBarred_3 rfl rfl ?_
  refine g_aload_n 0 5 dX9_isBarred_4 rfl rfl ?_
  refine g_getR 8 (a0 + 2) dX9_isBarred_5 rfl flX9_28 s0.1 s0.2.2.2.1 ?_
  refine g_bipush (32) 10 dX9_isBarred_8 rfl rfl ?_
  refine h_iaload 11 32 dX9_isBarred_10 rfl rfl s0.2.2.2.2.1 (vp_lit rfl) ?_
  refine g_iconst ((-1)) 12 dX9_isBarred_11 rfl rfl ?_
  refine g_callV (mc1 := 0) (ms1 := 0) (b := a0) (rest := []) (av := [.int ((-1)), .int ((-1)), .int (x1), .int ((g_mi M (a0 + 2) 32)), .int ((-1))]) kX9_setsAsked 15 dX9_isBarred_12 rfl rfl mbX9_328 imX9_setsAsked seX9_setsAsked gcl9.1 s0.1 (Nat.le_of_ble_eq_true rfl) (Nat.zero_le _) (Nat.zero_le _) (uX9_setsAsked (N := N) (K := K) s0 H (fun M1 jj H => ?_))
  have j1 : Sm M M1 := jj
  show Go X (d + K + 8) mc ms kX9_isBarred Q 15 [(0, .ref a0), (1, .int (x1))] [] M1 0 0
  refine g_aload_n 0 16 dX9_isBarred_15 rfl rfl ?_
  refine g_iconst (2) 17 dX9_isBarred_16 rfl rfl ?_
  refine g_iconst (0) 18 dX9_isBarred_17 rfl rfl ?_
  refine g_callV (mc1 := 0) (ms1 := 0) (b := a0) (rest := []) (av := [.int (2), .int (0)]) kX9_tells 21 dX9_isBarred_18 rfl rfl mbX9_332 imX9_tells seX9_tells gcl9.1 (Sm.k j1 s0.1) (Nat.le_of_ble_eq_true rfl) (Nat.zero_le _) (Nat.zero_le _) (uX9_tells (N := N) (K := K) (Mo.sm j1 s0) H (fun v1 M2 jj H => ?_))
  have j2 : Sm M M2 := Sm.tr j1 jj
  show Go X (d + K + 8) mc ms kX9_isBarred Q 21 [(0, .ref a0), (1, .int (x1))] [.int (v1)] M2 0 0
  refine g_iconst (1) 22 dX9_isBarred_21 rfl rfl ?_
  refine g_icmp_ne 29 25 dX9_isBarred_22 rfl rfl (fun c1 => ?_) (fun c1 => ?_)
  · skip
    replace H := H.1 c1
    refine g_iconst (0) 30 dX9_isBarred_29 rfl rfl ?_
    exact g_zret dX9_isBarred_30 rfl (by decide) (Nat.zero_le _) (Nat.zero_le _) (hR _ _ j2 H)
  · skip
    replace H := H.2 c1
    refine g_iconst (1) 26 dX9_isBarred_25 rfl rfl ?_
    refine g_goto 30 dX9_isBarred_26 rfl ?_
    exact g_zret dX9_isBarred_30 rfl (by decide) (Nat.zero_le _) (Nat.zero_le _) (hR _ _ j2 H)
/-! X9_laysRanks -/
def pX9_laysRanks_0 (N K : Nat) (kp : Nat → gM → Nat → Int32 → Int32 → Prop) (R : gM → Prop) (M : gM) (a0 : Nat) (x1 : Int32) : Prop := kp 0 M a0 x1 0
def pX9_laysRanks_2 (N K : Nat) (kp : Nat → gM → Nat → Int32 → Int32 → Prop) (R : gM → Prop) (M : gM) (a0 : Nat) (x1 : Int32) (x2 : Int32) : Prop := ∀ v1 : Int32, v1 = (fX9_vertexMany M a0) → ((v1 ≤ x2 → R M) ∧ (¬ v1 ≤ x2 → pX9_ranksOf N K M a0 x2 x1 (fun v2 M1 => (vp_in (x2) 60) ∧ ∀ M2 : gM, M2 = (g_wi M1 (a0 + 15) (x2).toNatClampNeg v2) → kp 0 M2 a0 x1 (x2 + 1))))
def qX9_laysRanks (N K : Nat) (R : gM → Prop) : Nat → Nat → gM → Nat → Int32 → Int32 → Prop
  | 0, _, _, _, _, _ => False
  | n + 1, _, M, a0, x1, x2 => pX9_laysRanks_2 N K (qX9_laysRanks N K R n) R M a0 x1 x2
def pX9_laysRanks (N K : Nat) (M : gM) (a0 : Nat) (x1 : Int32) (R : gM → Prop) : Prop := pX9_laysRanks_0 N K (qX9_laysRanks N K R N) R M a0 x1
def ULX9_laysRanks (X : gX) (d mc ms : Nat) (Q : Option Value → gM → Prop) (N K : Nat) (R : gM → Prop) (n : Nat) : Prop := (∀ (M : gM) (a0 : Nat) (x1 : Int32) (x2 : Int32), Mo M a0 → qX9_laysRanks N K R n 0 M a0 x1 x2 → (∀ (M1 : gM), Sm M M1 → R M1 → Q none M1) → Go X (d + K + 9) mc ms kX9_laysRanks Q 2 [(0, .ref a0), (1, .int (x1)), (2, .int (x2))] [] M 0 0)
set_option maxRecDepth 10000 in
theorem ulX9_laysRanks {X : gX} {d mc ms : Nat} {Q : Option Value → gM → Prop} {N K : Nat} {R : gM → Prop} : ∀ n : Nat, ULX9_laysRanks X d mc ms Q N K R n := by
  intro n
  induction n with
  | zero => exact fun _ _ _ _ _ h _ => h.elim
  | succ n ih =>
    intro M a0 x1 x2 s0 H hR
    rw [qX9_laysRanks] at H
    unfold pX9_laysRanks_2 at H
    refine g_iload_n 2 3 dX9_laysRanks_2 rfl rfl ?_
    refine g_aload_n 0 4 dX9_laysRanks_3 rfl rfl ?_
    refine g_callV (mc1 := 0) (ms1 := 0) (b := a0) (rest := [.int (x2)]) (av := []) kX9_vertexMany 7 dX9_laysRanks_4 rfl rfl mbX9_123 imX9_vertexMany seX9_vertexMany gcl9.1 s0.1 (Nat.le_of_ble_eq_true rfl) (Nat.zero_le _) (Nat.zero_le _) (tX9_vertexMany s0 ?_)
    show Go X (d + K + 9) mc ms kX9_laysRanks Q 7 [(0, .ref a0), (1, .int (x1)), (2, .int (x2))] [.int ((fX9_vertexMany M a0)), .int (x2)] M 0 0
    generalize hv1 : (fX9_vertexMany M a0) = v1
    replace H := H v1 hv1.symm
    refine g_icmp_ge 28 10 dX9_laysRanks_7 rfl rfl (fun c1 => ?_) (fun c1 => ?_)
    · skip
      replace H := H.1 c1
      exact g_vret dX9_laysRanks_28 rfl (Nat.zero_le _) (Nat.zero_le _) (hR _ Sm.rf H)
    · skip
      replace H := H.2 c1
      refine g_aload_n 0 11 dX9_laysRanks_10 rfl rfl ?_
      refine g_getR 14 (a0 + 15) dX9_laysRanks_11 rfl flX9_72 s0.1 s0.2.2.2.2.2.2.2.2.2.2.2.2.2.2.2.2.2.2.2.2.2.2.2.2.2.2.2.2.2.1 ?_
      refine g_iload_n 2 15 dX9_laysRanks_14 rfl rfl ?_
      refine g_aload_n 0 16 dX9_laysRanks_15 rfl rfl ?_
      refine g_iload_n 2 17 dX9_laysRanks_16 rfl rfl ?_
      refine g_iload_n 1 18 dX9_laysRanks_17 rfl rfl ?_
      refine g_callV (mc1 := 0) (ms1 := 0) (b := a0) (rest := [.int (x2), .ref (a0 + 15)]) (av := [.int (x2), .int (x1)]) kX9_ranksOf 21 dX9_laysRanks_18 rfl rfl mbX9_144 imX9_ranksOf seX9_ranksOf gcl9.1 s0.1 (Nat.le_of_ble_eq_true rfl) (Nat.zero_le _) (Nat.zero_le _) (uX9_ranksOf (N := N) (K := K) s0 H (fun v2 M1 jj H => ?_))
      have j1 : Sm M M1 := jj
      show Go X (d + K + 9) mc ms kX9_laysRanks Q 21 [(0, .ref a0), (1, .int (x1)), (2, .int (x2))] [.int (v2), .int (x2), .ref (a0 + 15)] M1 0 0
      obtain ⟨b1, H⟩ := H
      refine h_iastore 22 (x2).toNatClampNeg dX9_laysRanks_21 rfl rfl (Sm.k j1 s0.2.2.2.2.2.2.2.2.2.2.2.2.2.2.2.2.2.2.2.2.2.2.2.2.2.2.2.2.2.2.1) b1 ?_
      generalize hM2 : (g_wi M1 (a0 + 15) (x2).toNatClampNeg v2) = M2
      have j2 : Sm M M2 := by rw [← hM2]; exact (Sm.wi j1)
      replace H := H M2 hM2.symm
      refine g_iinc _ 2 25 [(2, .int ((x2 + 1))), (0, .ref a0), (1, .int (x1))] dX9_laysRanks_22 rfl rfl rfl (Nat.le_of_ble_eq_true rfl) rfl ?_
      refine g_goto 2 dX9_laysRanks_25 rfl ?_
      exact g_sub [1, 2, 0] _ rfl (ih M2 a0 x1 (x2 + 1) (Mo.sm j2 s0) H (fun M1 j r => hR M1 (Sm.tr j2 j) r))
set_option maxRecDepth 10000 in
theorem uX9_laysRanks {N K : Nat} {X : gX} {d mc ms : Nat} {Q : Option Value → gM → Prop} {M : gM} {a0 : Nat} {x1 : Int32} {R : gM → Prop} (s0 : Mo M a0) (H : pX9_laysRanks N K M a0 x1 R) (hR : ∀ (M1 : gM), Sm M M1 → R M1 → Q none M1) : Cn X (d + K + 9) mc ms kX9_laysRanks [.ref a0, .int (x1)] M Q := by
  have ih := ulX9_laysRanks (X := X) (d := d) (mc := mc) (ms := ms) (Q := Q) (N := N) (K := K) (R := R) N
  unfold pX9_laysRanks pX9_laysRanks_0 at H
  refine g_meth rfl rfl (Nat.le_of_ble_eq_true rfl) rfl ?_
  refine g_iconst (0) 1 dX9_laysRanks_0 rfl rfl ?_
  refine g_istore_n 2 [(2, .int (0)), (0, .ref a0), (1, .int (x1))] dX9_laysRanks_1 rfl (Nat.le_of_ble_eq_true rfl) rfl ?_
  exact g_sub [1, 2, 0] _ rfl (ih M a0 x1 0 s0 H (fun M1 j r => hR M1 j r))
/-! X9_adds -/
def pX9_adds_0 (N K : Nat) (kp : Nat → gM → Nat → Int32 → Int32 → Int32 → Prop) (R : Int32 → gM → Prop) (M : gM) (a0 : Nat) (x1 : Int32) : Prop := (EX9_isKey M x1) ∧ ∀ v1 : Int32, v1 = (fX9_isKey x1) → ((¬ v1 = 0 → (EX9_isThere N M a0 x1) ∧ ∀ v2 : Int32, v2 = (fX9_isThere N M a0 x1) → ((¬ v2 = 0 → R (-3) M) ∧ (v2 = 0 → pX9_isBarred N K M a0 x1 (fun v3 M1 => ((v3 = 0 → ((¬ (g_mi M1 (a0 + 2) 0) = 30 → (EX9_lowerMany N M1 a0 x1) ∧ ∀ v4 : Int32, v4 = (fX9_lowerMany N M1 a0 x1) → kp 0 M1 a0 x1 v4 (g_mi M1 (a0 + 2) 0)) ∧ ((g_mi M1 (a0 + 2) 0) = 30 → R (-5) M1))) ∧ (¬ v3 = 0 → R (-3) M1)))))) ∧ (v1 = 0 → R (-1) M))
def pX9_adds_55 (N K : Nat) (kp : Nat → gM → Nat → Int32 → Int32 → Int32 → Prop) (R : Int32 → gM → Prop) (M : gM) (a0 : Nat) (x1 : Int32) (x2 : Int32) (x3 : Int32) : Prop := ((x3 ≤ x2 → (vp_in ((1 + x2)) 5812) ∧ ∀ M1 : gM, M1 = (g_wi M (a0 + 2) ((1 + x2)).toNatClampNeg x1) → ∀ M2 : gM, M2 = (g_wi M1 (a0 + 2) 0 ((g_mi M1 (a0 + 2) 0) + 1)) → R (g_mi M2 (a0 + 2) 0) M2) ∧ (¬ x3 ≤ x2 → (EX9_keyAt M a0 (x3 - 1)) ∧ ∀ v1 : Int32, v1 = (fX9_keyAt M a0 (x3 - 1)) → (vp_in ((1 + x3)) 5812) ∧ ∀ M3 : gM, M3 = (g_wi M (a0 + 2) ((1 + x3)).toNatClampNeg v1) → kp 0 M3 a0 x1 x2 (x3 + (-1))))
def qX9_adds (N K : Nat) (R : Int32 → gM → Prop) : Nat → Nat → gM → Nat → Int32 → Int32 → Int32 → Prop
  | 0, _, _, _, _, _, _ => False
  | n + 1, _, M, a0, x1, x2, x3 => pX9_adds_55 N K (qX9_adds N K R n) R M a0 x1 x2 x3
def pX9_adds (N K : Nat) (M : gM) (a0 : Nat) (x1 : Int32) (R : Int32 → gM → Prop) : Prop := pX9_adds_0 N K (qX9_adds N K R N) R M a0 x1
def ULX9_adds (X : gX) (d mc ms : Nat) (Q : Option Value → gM → Prop) (N K : Nat) (R : Int32 → gM → Prop) (n : Nat) : Prop := (∀ (M : gM) (a0 : Nat) (x1 : Int32) (x2 : Int32) (x3 : Int32), Mo M a0 → qX9_adds N K R n 0 M a0 x1 x2 x3 → (∀ (v : Int32) (M1 : gM), Sm M M1 → R v M1 → Q (some (.int v)) M1) → Go X (d + K + 9) mc ms kX9_adds Q 55 [(0, .ref a0), (1, .int (x1)), (2, .int (x2)), (3, .int (x3))] [] M 0 0)
set_option maxRecDepth 10000 in
theorem ulX9_adds {X : gX} {d mc ms : Nat} {Q : Option Value → gM → Prop} {N K : Nat} {R : Int32 → gM → Prop} : ∀ n : Nat, ULX9_adds X d mc ms Q N K R n := by
  intro n
  induction n with
  | zero => exact fun _ _ _ _ _ _ h _ => h.elim
  | succ n ih =>
    intro M a0 x1 x2 x3 s0 H hR
    rw [qX9_adds] at H
    unfold pX9_adds_55 at H
    refine g_iload_n 3 56 dX9_adds_55 rfl rfl ?_
    refine g_iload_n 2 57 dX9_adds_56 rfl rfl ?_
    refine g_icmp_le 81 60 dX9_adds_57 rfl rfl (fun c1 => ?_) (fun c1 => ?_)
    · skip
      replace H := H.1 c1
      refine g_aload_n 0 82 dX9_adds_81 rfl rfl ?_
      refine g_getR 85 (a0 + 2) dX9_adds_82 rfl flX9_28 s0.1 s0.2.2.2.1 ?_
      refine g_iconst (1) 86 dX9_adds_85 rfl rfl ?_
      refine g_iload_n 2 87 dX9_adds_86 rfl rfl ?_
      refine g_iadd 88 dX9_adds_87 rfl ?_
      refine g_iload_n 1 89 dX9_adds_88 rfl rfl ?_
      obtain ⟨b1, H⟩ := H
      refine h_iastore 90 ((1 + x2)).toNatClampNeg dX9_adds_89 rfl rfl s0.2.2.2.2.1 b1 ?_
      generalize hM1 : (g_wi M (a0 + 2) ((1 + x2)).toNatClampNeg x1) = M1
      have j1 : Sm M M1 := by rw [← hM1]; exact (Sm.wi Sm.rf)
      replace H := H M1 hM1.symm
      refine g_aload_n 0 91 dX9_adds_90 rfl rfl ?_
      refine g_getR 94 (a0 + 2) dX9_adds_91 rfl flX9_28 (Sm.k j1 s0.1) (Sm.r j1 s0.2.2.2.1) ?_
      refine g_iconst (0) 95 dX9_adds_94 rfl rfl ?_
      refine g_dup2 96 dX9_adds_95 rfl rfl rfl ?_
      refine h_iaload 97 0 dX9_adds_96 rfl rfl (Sm.k j1 s0.2.2.2.2.1) (vp_lit rfl) ?_
      refine g_iconst (1) 98 dX9_adds_97 rfl rfl ?_
      refine g_iadd 99 dX9_adds_98 rfl ?_
      refine h_iastore 100 0 dX9_adds_99 rfl rfl (Sm.k j1 s0.2.2.2.2.1) (vp_lit rfl) ?_
      generalize hM2 : (g_wi M1 (a0 + 2) 0 ((g_mi M1 (a0 + 2) 0) + 1)) = M2
      have j2 : Sm M M2 := by rw [← hM2]; exact (Sm.wi j1)
      replace H := H M2 hM2.symm
      refine g_aload_n 0 101 dX9_adds_100 rfl rfl ?_
      refine g_getR 104 (a0 + 2) dX9_adds_101 rfl flX9_28 (Sm.k j2 s0.1) (Sm.r j2 s0.2.2.2.1) ?_
      refine g_iconst (0) 105 dX9_adds_104 rfl rfl ?_
      refine h_iaload 106 0 dX9_adds_105 rfl rfl (Sm.k j2 s0.2.2.2.2.1) (vp_lit rfl) ?_
      exact g_iret dX9_adds_106 rfl (Nat.zero_le _) (Nat.zero_le _) (hR _ _ j2 H)
    · skip
      replace H := H.2 c1
      refine g_aload_n 0 61 dX9_adds_60 rfl rfl ?_
      refine g_getR 64 (a0 + 2) dX9_adds_61 rfl flX9_28 s0.1 s0.2.2.2.1 ?_
      refine g_iconst (1) 65 dX9_adds_64 rfl rfl ?_
      refine g_iload_n 3 66 dX9_adds_65 rfl rfl ?_
      refine g_iadd 67 dX9_adds_66 rfl ?_
      refine g_aload_n 0 68 dX9_adds_67 rfl rfl ?_
      refine g_iload_n 3 69 dX9_adds_68 rfl rfl ?_
      refine g_iconst (1) 70 dX9_adds_69 rfl rfl ?_
      refine g_isub 71 dX9_adds_70 rfl ?_
      obtain ⟨b2, H⟩ := H
      refine g_callV (mc1 := 0) (ms1 := 0) (b := a0) (rest := [.int ((1 + x3)), .ref (a0 + 2)]) (av := [.int ((x3 - 1))]) kX9_keyAt 74 dX9_adds_71 rfl rfl mbX9_109 imX9_keyAt seX9_keyAt gcl9.1 s0.1 (Nat.le_of_ble_eq_true rfl) (Nat.zero_le _) (Nat.zero_le _) (tX9_keyAt s0 b2 ?_)
      show Go X (d + K + 9) mc ms kX9_adds Q 74 [(0, .ref a0), (1, .int (x1)), (2, .int (x2)), (3, .int (x3))] [.int ((fX9_keyAt M a0 (x3 - 1))), .int ((1 + x3)), .ref (a0 + 2)] M 0 0
      generalize hv1 : (fX9_keyAt M a0 (x3 - 1)) = v1
      replace H := H v1 hv1.symm
      obtain ⟨b3, H⟩ := H
      refine h_iastore 75 ((1 + x3)).toNatClampNeg dX9_adds_74 rfl rfl s0.2.2.2.2.1 b3 ?_
      generalize hM3 : (g_wi M (a0 + 2) ((1 + x3)).toNatClampNeg v1) = M3
      have j3 : Sm M M3 := by rw [← hM3]; exact (Sm.wi Sm.rf)
      replace H := H M3 hM3.symm
      refine g_iinc _ 3 78 [(3, .int ((x3 + (-1)))), (0, .ref a0), (1, .int (x1)), (2, .int (x2))] dX9_adds_75 rfl rfl rfl (Nat.le_of_ble_eq_true rfl) rfl ?_
      refine g_goto 55 dX9_adds_78 rfl ?_
      exact g_sub [1, 2, 3, 0] _ rfl (ih M3 a0 x1 x2 (x3 + (-1)) (Mo.sm j3 s0) H (fun v M1 j r => hR v M1 (Sm.tr j3 j) r))
set_option maxRecDepth 10000 in
theorem uX9_adds {N K : Nat} {X : gX} {d mc ms : Nat} {Q : Option Value → gM → Prop} {M : gM} {a0 : Nat} {x1 : Int32} {R : Int32 → gM → Prop} (s0 : Mo M a0) (H : pX9_adds N K M a0 x1 R) (hR : ∀ (v : Int32) (M1 : gM), Sm M M1 → R v M1 → Q (some (.int v)) M1) : Cn X (d + K + 9) mc ms kX9_adds [.ref a0, .int (x1)] M Q := by
  have ih := ulX9_adds (X := X) (d := d) (mc := mc) (ms := ms) (Q := Q) (N := N) (K := K) (R := R) N
  unfold pX9_adds pX9_adds_0 at H
  refine g_meth rfl rfl (Nat.le_of_ble_eq_true rfl) rfl ?_
  refine g_iload_n 1 1 dX9_adds_0 rfl rfl ?_
  obtain ⟨b1, H⟩ := H
  refine g_callS (mc1 := 0) (ms1 := 0) (rest := []) (av := [.int (x1)]) kX9_isKey 4 dX9_adds_1 rfl rfl mbX9_127 smX9_isKey (Nat.le_of_ble_eq_true rfl) (Nat.zero_le _) (Nat.zero_le _) (tX9_isKey b1 ?_)
  show Go X (d + K + 9) mc ms kX9_adds Q 4 [(0, .ref a0), (1, .int (x1))] [.int ((fX9_isKey x1))] M 0 0
  generalize hv1 : (fX9_isKey x1) = v1
  replace H := H v1 hv1.symm
  refine g_if_ne 9 7 dX9_adds_4 rfl rfl (fun c1 => ?_) (fun c1 => ?_)
  · skip
    replace H := H.1 c1
    refine g_aload_n 0 10 dX9_adds_9 rfl rfl ?_
    refine g_iload_n 1 11 dX9_adds_10 rfl rfl ?_
    obtain ⟨b2, H⟩ := H
    refine g_callV (mc1 := 0) (ms1 := 0) (b := a0) (rest := []) (av := [.int (x1)]) kX9_isThere 14 dX9_adds_11 rfl rfl mbX9_131 imX9_isThere seX9_isThere gcl9.1 s0.1 (Nat.le_of_ble_eq_true rfl) (Nat.zero_le _) (Nat.zero_le _) (tX9_isThere (N := N) s0 b2 ?_)
    show Go X (d + K + 9) mc ms kX9_adds Q 14 [(0, .ref a0), (1, .int (x1))] [.int ((fX9_isThere N M a0 x1))] M 0 0
    generalize hv2 : (fX9_isThere N M a0 x1) = v2
    replace H := H v2 hv2.symm
    refine g_if_ne 25 17 dX9_adds_14 rfl rfl (fun c2 => ?_) (fun c2 => ?_)
    · skip
      replace H := H.1 c2
      refine g_bipush ((-3)) 27 dX9_adds_25 rfl rfl ?_
      exact g_iret dX9_adds_27 rfl (Nat.zero_le _) (Nat.zero_le _) (hR _ _ Sm.rf H)
    · skip
      replace H := H.2 c2
      refine g_aload_n 0 18 dX9_adds_17 rfl rfl ?_
      refine g_iload_n 1 19 dX9_adds_18 rfl rfl ?_
      refine g_callV (mc1 := 0) (ms1 := 0) (b := a0) (rest := []) (av := [.int (x1)]) kX9_isBarred 22 dX9_adds_19 rfl rfl mbX9_134 imX9_isBarred seX9_isBarred gcl9.1 s0.1 (Nat.le_of_ble_eq_true rfl) (Nat.zero_le _) (Nat.zero_le _) (uX9_isBarred (N := N) (K := K) s0 H (fun v3 M1 jj H => ?_))
      have j1 : Sm M M1 := jj
      show Go X (d + K + 9) mc ms kX9_adds Q 22 [(0, .ref a0), (1, .int (x1))] [.int (v3)] M1 0 0
      refine g_if_eq 28 25 dX9_adds_22 rfl rfl (fun c3 => ?_) (fun c3 => ?_)
      · skip
        replace H := H.1 c3
        refine g_aload_n 0 29 dX9_adds_28 rfl rfl ?_
        refine g_getR 32 (a0 + 2) dX9_adds_29 rfl flX9_28 (Sm.k j1 s0.1) (Sm.r j1 s0.2.2.2.1) ?_
        refine g_iconst (0) 33 dX9_adds_32 rfl rfl ?_
        refine h_iaload 34 0 dX9_adds_33 rfl rfl (Sm.k j1 s0.2.2.2.2.1) (vp_lit rfl) ?_
        refine g_bipush (30) 36 dX9_adds_34 rfl rfl ?_
        refine g_icmp_ne 42 39 dX9_adds_36 rfl rfl (fun c4 => ?_) (fun c4 => ?_)
        · skip
          replace H := H.1 c4
          refine g_aload_n 0 43 dX9_adds_42 rfl rfl ?_
          refine g_iload_n 1 44 dX9_adds_43 rfl rfl ?_
          obtain ⟨b3, H⟩ := H
          refine g_callV (mc1 := 0) (ms1 := 0) (b := a0) (rest := []) (av := [.int (x1)]) kX9_lowerMany 47 dX9_adds_44 rfl rfl mbX9_112 imX9_lowerMany seX9_lowerMany gcl9.1 (Sm.k j1 s0.1) (Nat.le_of_ble_eq_true rfl) (Nat.zero_le _) (Nat.zero_le _) (tX9_lowerMany (N := N) (Mo.sm j1 s0) b3 ?_)
          show Go X (d + K + 9) mc ms kX9_adds Q 47 [(0, .ref a0), (1, .int (x1))] [.int ((fX9_lowerMany N M1 a0 x1))] M1 0 0
          generalize hv4 : (fX9_lowerMany N M1 a0 x1) = v4
          replace H := H v4 hv4.symm
          refine g_istore_n 48 [(2, .int (v4)), (0, .ref a0), (1, .int (x1))] dX9_adds_47 rfl (Nat.le_of_ble_eq_true rfl) rfl ?_
          refine g_aload_n 1 49 dX9_adds_48 rfl rfl ?_
          refine g_getR 52 (a0 + 2) dX9_adds_49 rfl flX9_28 (Sm.k j1 s0.1) (Sm.r j1 s0.2.2.2.1) ?_
          refine g_iconst (0) 53 dX9_adds_52 rfl rfl ?_
          refine h_iaload 54 0 dX9_adds_53 rfl rfl (Sm.k j1 s0.2.2.2.2.1) (vp_lit rfl) ?_
          refine g_istore_n 55 [(3, .int ((g_mi M1 (a0 + 2) 0))), (2, .int (v4)), (0, .ref a0), (1, .int (x1))] dX9_adds_54 rfl (Nat.le_of_ble_eq_true rfl) rfl ?_
          exact g_sub [2, 3, 1, 0] _ rfl (ih M1 a0 x1 v4 (g_mi M1 (a0 + 2) 0) (Mo.sm j1 s0) H (fun v M1 j r => hR v M1 (Sm.tr j1 j) r))
        · skip
          replace H := H.2 c4
          refine g_bipush ((-5)) 41 dX9_adds_39 rfl rfl ?_
          exact g_iret dX9_adds_41 rfl (Nat.zero_le _) (Nat.zero_le _) (hR _ _ j1 H)
      · skip
        replace H := H.2 c3
        refine g_bipush ((-3)) 27 dX9_adds_25 rfl rfl ?_
        exact g_iret dX9_adds_27 rfl (Nat.zero_le _) (Nat.zero_le _) (hR _ _ j1 H)
  · skip
    replace H := H.2 c1
    refine g_iconst ((-1)) 8 dX9_adds_7 rfl rfl ?_
    exact g_iret dX9_adds_8 rfl (Nat.zero_le _) (Nat.zero_le _) (hR _ _ Sm.rf H)
/-! X9_builds -/
def pX9_builds_0 (N K : Nat) (kp : Nat → gM → Nat → Int32 → Int32 → Prop) (R : Int32 → gM → Prop) (M : gM) (a0 : Nat) : Prop := kp 0 M a0 0 (g_mi M (a0 + 2) 32)
def pX9_builds_10 (N K : Nat) (kp : Nat → gM → Nat → Int32 → Int32 → Prop) (R : Int32 → gM → Prop) (M : gM) (a0 : Nat) (x1 : Int32) (x2 : Int32) : Prop := ((256 ≤ x1 → ((¬ x1 = 256 → ∀ M1 : gM, M1 = (g_wi M (a0 + 2) 32 x2) → pX9_laysRanks N K M1 a0 x2 (fun M2 => pX9_peels N K M2 a0 x2 (fun M3 => pX9_laysTable N K M3 a0 (fun M4 => ∀ v1 : Int32, v1 = (fX9_lesser 999 ((g_mi M4 (a0 + 2) 187) + 1)) → ∀ M5 : gM, M5 = (g_wi M4 (a0 + 2) 187 v1) → R x1 M5)))) ∧ (x1 = 256 → R (-3) M))) ∧ (¬ 256 ≤ x1 → pX9_coreOf N K M a0 x2 (fun v2 M6 => ((v2 ≤ 0 → ((¬ x1 = 256 → ∀ M7 : gM, M7 = (g_wi M6 (a0 + 2) 32 x2) → pX9_laysRanks N K M7 a0 x2 (fun M8 => pX9_peels N K M8 a0 x2 (fun M9 => pX9_laysTable N K M9 a0 (fun M10 => ∀ v3 : Int32, v3 = (fX9_lesser 999 ((g_mi M10 (a0 + 2) 187) + 1)) → ∀ M11 : gM, M11 = (g_wi M10 (a0 + 2) 187 v3) → R x1 M11)))) ∧ (x1 = 256 → R (-3) M6))) ∧ (¬ v2 ≤ 0 → kp 0 M6 a0 (x1 + 1) (i_rm (x2 + 1) 256))))))
def qX9_builds (N K : Nat) (R : Int32 → gM → Prop) : Nat → Nat → gM → Nat → Int32 → Int32 → Prop
  | 0, _, _, _, _, _ => False
  | n + 1, _, M, a0, x1, x2 => pX9_builds_10 N K (qX9_builds N K R n) R M a0 x1 x2
def pX9_builds (N K : Nat) (M : gM) (a0 : Nat) (R : Int32 → gM → Prop) : Prop := pX9_builds_0 N K (qX9_builds N K R N) R M a0
def ULX9_builds (X : gX) (d mc ms : Nat) (Q : Option Value → gM → Prop) (N K : Nat) (R : Int32 → gM → Prop) (n : Nat) : Prop := (∀ (M : gM) (a0 : Nat) (x1 : Int32) (x2 : Int32), Mo M a0 → qX9_builds N K R n 0 M a0 x1 x2 → (∀ (v : Int32) (M1 : gM), Sm M M1 → R v M1 → Q (some (.int v)) M1) → Go X (d + K + 10) mc ms kX9_builds Q 10 [(0, .ref a0), (1, .int (x1)), (2, .int (x2))] [] M 0 0)
set_option maxRecDepth 10000 in
theorem ulX9_builds {X : gX} {d mc ms : Nat} {Q : Option Value → gM → Prop} {N K : Nat} {R : Int32 → gM → Prop} : ∀ n : Nat, ULX9_builds X d mc ms Q N K R n := by
  intro n
  induction n with
  | zero => exact fun _ _ _ _ _ h _ => h.elim
  | succ n ih =>
    intro M a0 x1 x2 s0 H hR
    rw [qX9_builds] at H
    unfold pX9_builds_10 at H
    refine g_iload_n 1 11 dX9_builds_10 rfl rfl ?_
    refine g_sipush (256) 14 dX9_builds_11 rfl rfl ?_
    refine g_icmp_ge 39 17 dX9_builds_14 rfl rfl (fun c1 => ?_) (fun c1 => ?_)
    · skip
      replace H := H.1 c1
      refine g_iload_n 1 40 dX9_builds_39 rfl rfl ?_
      refine g_sipush (256) 43 dX9_builds_40 rfl rfl ?_
      refine g_icmp_ne 49 46 dX9_builds_43 rfl rfl (fun c2 => ?_) (fun c2 => ?_)
      · skip
        replace H := H.1 c2
        refine g_aload_n 0 50 dX9_builds_49 rfl rfl ?_
        refine g_getR 53 (a0 + 2) dX9_builds_50 rfl flX9_28 s0.1 s0.2.2.2.1 ?_
        refine g_bipush (32) 55 dX9_builds_53 rfl rfl ?_
        refine g_iload_n 2 56 dX9_builds_55 rfl rfl ?_
        refine h_iastore 57 32 dX9_builds_56 rfl rfl s0.2.2.2.2.1 (vp_lit rfl) ?_
        generalize hM1 : (g_wi M (a0 + 2) 32 x2) = M1
        have j1 : Sm M M1 := by rw [← hM1]; exact (Sm.wi Sm.rf)
        replace H := H M1 hM1.symm
        refine g_aload_n 0 58 dX9_builds_57 rfl rfl ?_
        refine g_iload_n 2 59 dX9_builds_58 rfl rfl ?_
        refine g_callV (mc1 := 0) (ms1 := 0) (b := a0) (rest := []) (av := [.int (x2)]) kX9_laysRanks 62 dX9_builds_59 rfl rfl mbX9_356 imX9_laysRanks seX9_laysRanks gcl9.1 (Sm.k j1 s0.1) (Nat.le_of_ble_eq_true rfl) (Nat.zero_le _) (Nat.zero_le _) (uX9_laysRanks (N := N) (K := K) (Mo.sm j1 s0) H (fun M2 jj H => ?_))
        have j2 : Sm M M2 := Sm.tr j1 jj
        show Go X (d + K + 10) mc ms kX9_builds Q 62 [(0, .ref a0), (1, .int (x1)), (2, .int (x2))] [] M2 0 0
        refine g_aload_n 0 63 dX9_builds_62 rfl rfl ?_
        refine g_iload_n 2 64 dX9_builds_63 rfl rfl ?_
        refine g_callV (mc1 := 0) (ms1 := 0) (b := a0) (rest := []) (av := [.int (x2)]) kX9_peels 67 dX9_builds_64 rfl rfl mbX9_344 imX9_peels seX9_peels gcl9.1 (Sm.k j2 s0.1) (Nat.le_of_ble_eq_true rfl) (Nat.zero_le _) (Nat.zero_le _) (uX9_peels (N := N) (K := K) (Mo.sm j2 s0) H (fun M3 jj H => ?_))
        have j3 : Sm M M3 := Sm.tr j2 jj
        show Go X (d + K + 10) mc ms kX9_builds Q 67 [(0, .ref a0), (1, .int (x1)), (2, .int (x2))] [] M3 0 0
        refine g_aload_n 0 68 dX9_builds_67 rfl rfl ?_
        refine g_callV (mc1 := 0) (ms1 := 0) (b := a0) (rest := []) (av := []) kX9_laysTable 71 dX9_builds_68 rfl rfl mbX9_359 imX9_laysTable seX9_laysTable gcl9.1 (Sm.k j3 s0.1) (Nat.le_of_ble_eq_true rfl) (Nat.zero_le _) (Nat.zero_le _) (uX9_laysTable (N := N) (K := K) (Mo.sm j3 s0) H (fun M4 jj H => ?_))
        have j4 : Sm M M4 := Sm.tr j3 jj
        show Go X (d + K + 10) mc ms kX9_builds Q 71 [(0, .ref a0), (1, .int (x1)), (2, .int (x2))] [] M4 0 0
        refine g_aload_n 0 72 dX9_builds_71 rfl rfl ?_
        refine g_getR 75 (a0 + 2) dX9_builds_72 rfl flX9_28 (Sm.k j4 s0.1) (Sm.r j4 s0.2.2.2.1) ?_
        refine g_sipush (187) 78 dX9_builds_75 rfl rfl ?_
        refine g_sipush (999) 81 dX9_builds_78 rfl rfl ?_
        refine g_aload_n 0 82 dX9_builds_81 rfl rfl ?_
        refine g_getR 85 (a0 + 2) dX9_builds_82 rfl flX9_28 (Sm.k j4 s0.1) (Sm.r j4 s0.2.2.2.1) ?_
        refine g_sipush (187) 88 dX9_builds_85 rfl rfl ?_
        refine h_iaload 89 187 dX9_builds_88 rfl rfl (Sm.k j4 s0.2.2.2.2.1) (vp_lit rfl) ?_
        refine g_iconst (1) 90 dX9_builds_89 rfl rfl ?_
        refine g_iadd 91 dX9_builds_90 rfl ?_
        refine g_callS (mc1 := 0) (ms1 := 0) (rest := [.int (187), .ref (a0 + 2)]) (av := [.int (999), .int (((g_mi M4 (a0 + 2) 187) + 1))]) kX9_lesser 94 dX9_builds_91 rfl rfl mbX9_362 smX9_lesser (Nat.le_of_ble_eq_true rfl) (Nat.zero_le _) (Nat.zero_le _) (tX9_lesser  ?_)
        show Go X (d + K + 10) mc ms kX9_builds Q 94 [(0, .ref a0), (1, .int (x1)), (2, .int (x2))] [.int ((fX9_lesser 999 ((g_mi M4 (a0 + 2) 187) + 1))), .int (187), .ref (a0 + 2)] M4 0 0
        generalize hv1 : (fX9_lesser 999 ((g_mi M4 (a0 + 2) 187) + 1)) = v1
        replace H := H v1 hv1.symm
        refine h_iastore 95 187 dX9_builds_94 rfl rfl (Sm.k j4 s0.2.2.2.2.1) (vp_lit rfl) ?_
        generalize hM5 : (g_wi M4 (a0 + 2) 187 v1) = M5
        have j5 : Sm M M5 := by rw [← hM5]; exact (Sm.wi j4)
        replace H := H M5 hM5.symm
        refine g_iload_n 1 96 dX9_builds_95 rfl rfl ?_
        exact g_iret dX9_builds_96 rfl (Nat.zero_le _) (Nat.zero_le _) (hR _ _ j5 H)
      · skip
        replace H := H.2 c2
        refine g_bipush ((-3)) 48 dX9_builds_46 rfl rfl ?_
        exact g_iret dX9_builds_48 rfl (Nat.zero_le _) (Nat.zero_le _) (hR _ _ Sm.rf H)
    · skip
      replace H := H.2 c1
      refine g_aload_n 0 18 dX9_builds_17 rfl rfl ?_
      refine g_iload_n 2 19 dX9_builds_18 rfl rfl ?_
      refine g_callV (mc1 := 0) (ms1 := 0) (b := a0) (rest := []) (av := [.int (x2)]) kX9_coreOf 22 dX9_builds_19 rfl rfl mbX9_353 imX9_coreOf seX9_coreOf gcl9.1 s0.1 (Nat.le_of_ble_eq_true rfl) (Nat.zero_le _) (Nat.zero_le _) (uX9_coreOf (N := N) (K := K) s0 H (fun v2 M6 jj H => ?_))
      have j6 : Sm M M6 := jj
      show Go X (d + K + 10) mc ms kX9_builds Q 22 [(0, .ref a0), (1, .int (x1)), (2, .int (x2))] [.int (v2)] M6 0 0
      refine g_if_le 39 25 dX9_builds_22 rfl rfl (fun c3 => ?_) (fun c3 => ?_)
      · skip
        replace H := H.1 c3
        refine g_iload_n 1 40 dX9_builds_39 rfl rfl ?_
        refine g_sipush (256) 43 dX9_builds_40 rfl rfl ?_
        refine g_icmp_ne 49 46 dX9_builds_43 rfl rfl (fun c4 => ?_) (fun c4 => ?_)
        · skip
          replace H := H.1 c4
          refine g_aload_n 0 50 dX9_builds_49 rfl rfl ?_
          refine g_getR 53 (a0 + 2) dX9_builds_50 rfl flX9_28 (Sm.k j6 s0.1) (Sm.r j6 s0.2.2.2.1) ?_
          refine g_bipush (32) 55 dX9_builds_53 rfl rfl ?_
          refine g_iload_n 2 56 dX9_builds_55 rfl rfl ?_
          refine h_iastore 57 32 dX9_builds_56 rfl rfl (Sm.k j6 s0.2.2.2.2.1) (vp_lit rfl) ?_
          generalize hM7 : (g_wi M6 (a0 + 2) 32 x2) = M7
          have j7 : Sm M M7 := by rw [← hM7]; exact (Sm.wi j6)
          replace H := H M7 hM7.symm
          refine g_aload_n 0 58 dX9_builds_57 rfl rfl ?_
          refine g_iload_n 2 59 dX9_builds_58 rfl rfl ?_
          refine g_callV (mc1 := 0) (ms1 := 0) (b := a0) (rest := []) (av := [.int (x2)]) kX9_laysRanks 62 dX9_builds_59 rfl rfl mbX9_356 imX9_laysRanks seX9_laysRanks gcl9.1 (Sm.k j7 s0.1) (Nat.le_of_ble_eq_true rfl) (Nat.zero_le _) (Nat.zero_le _) (uX9_laysRanks (N := N) (K := K) (Mo.sm j7 s0) H (fun M8 jj H => ?_))
          have j8 : Sm M M8 := Sm.tr j7 jj
          show Go X (d + K + 10) mc ms kX9_builds Q 62 [(0, .ref a0), (1, .int (x1)), (2, .int (x2))] [] M8 0 0
          refine g_aload_n 0 63 dX9_builds_62 rfl rfl ?_
          refine g_iload_n 2 64 dX9_builds_63 rfl rfl ?_
          refine g_callV (mc1 := 0) (ms1 := 0) (b := a0) (rest := []) (av := [.int (x2)]) kX9_peels 67 dX9_builds_64 rfl rfl mbX9_344 imX9_peels seX9_peels gcl9.1 (Sm.k j8 s0.1) (Nat.le_of_ble_eq_true rfl) (Nat.zero_le _) (Nat.zero_le _) (uX9_peels (N := N) (K := K) (Mo.sm j8 s0) H (fun M9 jj H => ?_))
          have j9 : Sm M M9 := Sm.tr j8 jj
          show Go X (d + K + 10) mc ms kX9_builds Q 67 [(0, .ref a0), (1, .int (x1)), (2, .int (x2))] [] M9 0 0
          refine g_aload_n 0 68 dX9_builds_67 rfl rfl ?_
          refine g_callV (mc1 := 0) (ms1 := 0) (b := a0) (rest := []) (av := []) kX9_laysTable 71 dX9_builds_68 rfl rfl mbX9_359 imX9_laysTable seX9_laysTable gcl9.1 (Sm.k j9 s0.1) (Nat.le_of_ble_eq_true rfl) (Nat.zero_le _) (Nat.zero_le _) (uX9_laysTable (N := N) (K := K) (Mo.sm j9 s0) H (fun M10 jj H => ?_))
          have j10 : Sm M M10 := Sm.tr j9 jj
          show Go X (d + K + 10) mc ms kX9_builds Q 71 [(0, .ref a0), (1, .int (x1)), (2, .int (x2))] [] M10 0 0
          refine g_aload_n 0 72 dX9_builds_71 rfl rfl ?_
          refine g_getR 75 (a0 + 2) dX9_builds_72 rfl flX9_28 (Sm.k j10 s0.1) (Sm.r j10 s0.2.2.2.1) ?_
          refine g_sipush (187) 78 dX9_builds_75 rfl rfl ?_
          refine g_sipush (999) 81 dX9_builds_78 rfl rfl ?_
          refine g_aload_n 0 82 dX9_builds_81 rfl rfl ?_
          refine g_getR 85 (a0 + 2) dX9_builds_82 rfl flX9_28 (Sm.k j10 s0.1) (Sm.r j10 s0.2.2.2.1) ?_
          refine g_sipush (187) 88 dX9_builds_85 rfl rfl ?_
          refine h_iaload 89 187 dX9_builds_88 rfl rfl (Sm.k j10 s0.2.2.2.2.1) (vp_lit rfl) ?_
          refine g_iconst (1) 90 dX9_builds_89 rfl rfl ?_
          refine g_iadd 91 dX9_builds_90 rfl ?_
          refine g_callS (mc1 := 0) (ms1 := 0) (rest := [.int (187), .ref (a0 + 2)]) (av := [.int (999), .int (((g_mi M10 (a0 + 2) 187) + 1))]) kX9_lesser 94 dX9_builds_91 rfl rfl mbX9_362 smX9_lesser (Nat.le_of_ble_eq_true rfl) (Nat.zero_le _) (Nat.zero_le _) (tX9_lesser  ?_)
          show Go X (d + K + 10) mc ms kX9_builds Q 94 [(0, .ref a0), (1, .int (x1)), (2, .int (x2))] [.int ((fX9_lesser 999 ((g_mi M10 (a0 + 2) 187) + 1))), .int (187), .ref (a0 + 2)] M10 0 0
          generalize hv3 : (fX9_lesser 999 ((g_mi M10 (a0 + 2) 187) + 1)) = v3
          replace H := H v3 hv3.symm
          refine h_iastore 95 187 dX9_builds_94 rfl rfl (Sm.k j10 s0.2.2.2.2.1) (vp_lit rfl) ?_
          generalize hM11 : (g_wi M10 (a0 + 2) 187 v3) = M11
          have j11 : Sm M M11 := by rw [← hM11]; exact (Sm.wi j10)
          replace H := H M11 hM11.symm
          refine g_iload_n 1 96 dX9_builds_95 rfl rfl ?_
          exact g_iret dX9_builds_96 rfl (Nat.zero_le _) (Nat.zero_le _) (hR _ _ j11 H)
        · skip
          replace H := H.2 c4
          refine g_bipush ((-3)) 48 dX9_builds_46 rfl rfl ?_
          exact g_iret dX9_builds_48 rfl (Nat.zero_le _) (Nat.zero_le _) (hR _ _ j6 H)
      · skip
        replace H := H.2 c3
        refine g_iinc _ 1 28 [(1, .int ((x1 + 1))), (0, .ref a0), (2, .int (x2))] dX9_builds_25 rfl rfl rfl (Nat.le_of_ble_eq_true rfl) rfl ?_
        refine g_iload_n 2 29 dX9_builds_28 rfl rfl ?_
        refine g_iconst (1) 30 dX9_builds_29 rfl rfl ?_
        refine g_iadd 31 dX9_builds_30 rfl ?_
        refine g_sipush (256) 34 dX9_builds_31 rfl rfl ?_
        refine h_irem 35 dX9_builds_34 rfl (by decide) ?_
        refine g_istore_n 36 [(2, .int ((i_rm (x2 + 1) 256))), (1, .int ((x1 + 1))), (0, .ref a0)] dX9_builds_35 rfl (Nat.le_of_ble_eq_true rfl) rfl ?_
        refine g_goto 10 dX9_builds_36 rfl ?_
        exact g_sub [2, 1, 0] _ rfl (ih M6 a0 (x1 + 1) (i_rm (x2 + 1) 256) (Mo.sm j6 s0) H (fun v M1 j r => hR v M1 (Sm.tr j6 j) r))
set_option maxRecDepth 10000 in
theorem uX9_builds {N K : Nat} {X : gX} {d mc ms : Nat} {Q : Option Value → gM → Prop} {M : gM} {a0 : Nat} {R : Int32 → gM → Prop} (s0 : Mo M a0) (H : pX9_builds N K M a0 R) (hR : ∀ (v : Int32) (M1 : gM), Sm M M1 → R v M1 → Q (some (.int v)) M1) : Cn X (d + K + 10) mc ms kX9_builds [.ref a0] M Q := by
  have ih := ulX9_builds (X := X) (d := d) (mc := mc) (ms := ms) (Q := Q) (N := N) (K := K) (R := R) N
  unfold pX9_builds pX9_builds_0 at H
  refine g_meth rfl rfl (Nat.le_of_ble_eq_true rfl) rfl ?_
  refine g_iconst (0) 1 dX9_builds_0 rfl rfl ?_
  refine g_istore_n 2 [(1, .int (0)), (0, .ref a0)] dX9_builds_1 rfl (Nat.le_of_ble_eq_true rfl) rfl ?_
  refine g_aload_n 1 3 dX9_builds_2 rfl rfl ?_
  refine g_getR 6 (a0 + 2) dX9_builds_3 rfl flX9_28 s0.1 s0.2.2.2.1 ?_
  refine g_bipush (32) 8 dX9_builds_6 rfl rfl ?_
  refine h_iaload 9 32 dX9_builds_8 rfl rfl s0.2.2.2.2.1 (vp_lit rfl) ?_
  refine g_istore_n 10 [(2, .int ((g_mi M (a0 + 2) 32))), (1, .int (0)), (0, .ref a0)] dX9_builds_9 rfl (Nat.le_of_ble_eq_true rfl) rfl ?_
  exact g_sub [2, 1, 0] _ rfl (ih M a0 0 (g_mi M (a0 + 2) 32) s0 H (fun v M1 j r => hR v M1 j r))
/-! X9_addsKept -/
def pX9_addsKept (N K : Nat) (M : gM) (a0 : Nat) (x1 : Int32) (R : Int32 → gM → Prop) : Prop := pX9_laysAside N K M a0 2 (fun M1 => pX9_adds N K M1 a0 x1 (fun v1 M2 => pX9_keptOr N K M2 a0 0 v1 (fun v2 M3 => R v2 M3)))
set_option maxRecDepth 10000 in
theorem uX9_addsKept {N K : Nat} {X : gX} {d mc ms : Nat} {Q : Option Value → gM → Prop} {M : gM} {a0 : Nat} {x1 : Int32} {R : Int32 → gM → Prop} (s0 : Mo M a0) (H : pX9_addsKept N K M a0 x1 R) (hR : ∀ (v : Int32) (M1 : gM), Sm M M1 → R v M1 → Q (some (.int v)) M1) : Cn X (d + K + 10) mc ms kX9_addsKept [.ref a0, .int (x1)] M Q := by
  unfold pX9_addsKept at H
  refine g_meth rfl rfl (Nat.le_of_ble_eq_true rfl) rfl ?_
  refine g_aload_n 0 1 dX9_addsKept_0 rfl rfl ?_
  refine g_iconst (2) 2 dX9_addsKept_1 rfl rfl ?_
  refine g_callV (mc1 := 0) (ms1 := 0) (b := a0) (rest := []) (av := [.int (2)]) kX9_laysAside 5 dX9_addsKept_2 rfl rfl mbX9_365 imX9_laysAside seX9_laysAside gcl9.1 s0.1 (Nat.le_of_ble_eq_true rfl) (Nat.zero_le _) (Nat.zero_le _) (uX9_laysAside (N := N) (K := K) s0 H (fun M1 jj H => ?_))
  have j1 : Sm M M1 := jj
  show Go X (d + K + 10) mc ms kX9_addsKept Q 5 [(0, .ref a0), (1, .int (x1))] [] M1 0 0
  refine g_aload_n 0 6 dX9_addsKept_5 rfl rfl ?_
  refine g_iconst (0) 7 dX9_addsKept_6 rfl rfl ?_
  refine g_aload_n 0 8 dX9_addsKept_7 rfl rfl ?_
  refine g_iload_n 1 9 dX9_addsKept_8 rfl rfl ?_
  refine g_callV (mc1 := 0) (ms1 := 0) (b := a0) (rest := [.int (0), .ref a0]) (av := [.int (x1)]) kX9_adds 12 dX9_addsKept_9 rfl rfl mbX9_163 imX9_adds seX9_adds gcl9.1 (Sm.k j1 s0.1) (Nat.le_of_ble_eq_true rfl) (Nat.zero_le _) (Nat.zero_le _) (uX9_adds (N := N) (K := K) (Mo.sm j1 s0) H (fun v1 M2 jj H => ?_))
  have j2 : Sm M M2 := Sm.tr j1 jj
  show Go X (d + K + 10) mc ms kX9_addsKept Q 12 [(0, .ref a0), (1, .int (x1))] [.int (v1), .int (0), .ref a0] M2 0 0
  refine g_callV (mc1 := 0) (ms1 := 0) (b := a0) (rest := []) (av := [.int (0), .int (v1)]) kX9_keptOr 15 dX9_addsKept_12 rfl rfl mbX9_368 imX9_keptOr seX9_keptOr gcl9.1 (Sm.k j2 s0.1) (Nat.le_of_ble_eq_true rfl) (Nat.zero_le _) (Nat.zero_le _) (uX9_keptOr (N := N) (K := K) (Mo.sm j2 s0) H (fun v2 M3 jj H => ?_))
  have j3 : Sm M M3 := Sm.tr j2 jj
  show Go X (d + K + 10) mc ms kX9_addsKept Q 15 [(0, .ref a0), (1, .int (x1))] [.int (v2)] M3 0 0
  exact g_iret dX9_addsKept_15 rfl (Nat.zero_le _) (Nat.zero_le _) (hR _ _ j3 H)
/-! X9_buildsKept -/
def pX9_buildsKept (N K : Nat) (M : gM) (a0 : Nat) (R : Int32 → gM → Prop) : Prop := pX9_laysAside N K M a0 2 (fun M1 => pX9_builds N K M1 a0 (fun v1 M2 => pX9_keptOr N K M2 a0 4 v1 (fun v2 M3 => R v2 M3)))
set_option maxRecDepth 10000 in
theorem uX9_buildsKept {N K : Nat} {X : gX} {d mc ms : Nat} {Q : Option Value → gM → Prop} {M : gM} {a0 : Nat} {R : Int32 → gM → Prop} (s0 : Mo M a0) (H : pX9_buildsKept N K M a0 R) (hR : ∀ (v : Int32) (M1 : gM), Sm M M1 → R v M1 → Q (some (.int v)) M1) : Cn X (d + K + 11) mc ms kX9_buildsKept [.ref a0] M Q := by
  unfold pX9_buildsKept at H
  refine g_meth rfl rfl (Nat.le_of_ble_eq_true rfl) rfl ?_
  refine g_aload_n 0 1 dX9_buildsKept_0 rfl rfl ?_
  refine g_iconst (2) 2 dX9_buildsKept_1 rfl rfl ?_
  refine g_callV (mc1 := 0) (ms1 := 0) (b := a0) (rest := []) (av := [.int (2)]) kX9_laysAside 5 dX9_buildsKept_2 rfl rfl mbX9_365 imX9_laysAside seX9_laysAside gcl9.1 s0.1 (Nat.le_of_ble_eq_true rfl) (Nat.zero_le _) (Nat.zero_le _) (uX9_laysAside (N := N) (K := K) s0 H (fun M1 jj H => ?_))
  have j1 : Sm M M1 := jj
  show Go X (d + K + 11) mc ms kX9_buildsKept Q 5 [(0, .ref a0)] [] M1 0 0
  refine g_aload_n 0 6 dX9_buildsKept_5 rfl rfl ?_
  refine g_iconst (4) 7 dX9_buildsKept_6 rfl rfl ?_
  refine g_aload_n 0 8 dX9_buildsKept_7 rfl rfl ?_
  refine g_callV (mc1 := 0) (ms1 := 0) (b := a0) (rest := [.int (4), .ref a0]) (av := []) kX9_builds 11 dX9_buildsKept_8 rfl rfl mbX9_380 imX9_builds seX9_builds gcl9.1 (Sm.k j1 s0.1) (Nat.le_of_ble_eq_true rfl) (Nat.zero_le _) (Nat.zero_le _) (uX9_builds (N := N) (K := K) (Mo.sm j1 s0) H (fun v1 M2 jj H => ?_))
  have j2 : Sm M M2 := Sm.tr j1 jj
  show Go X (d + K + 11) mc ms kX9_buildsKept Q 11 [(0, .ref a0)] [.int (v1), .int (4), .ref a0] M2 0 0
  refine g_callV (mc1 := 0) (ms1 := 0) (b := a0) (rest := []) (av := [.int (4), .int (v1)]) kX9_keptOr 14 dX9_buildsKept_11 rfl rfl mbX9_368 imX9_keptOr seX9_keptOr gcl9.1 (Sm.k j2 s0.1) (Nat.le_of_ble_eq_true rfl) (Nat.zero_le _) (Nat.zero_le _) (uX9_keptOr (N := N) (K := K) (Mo.sm j2 s0) H (fun v2 M3 jj H => ?_))
  have j3 : Sm M M3 := Sm.tr j2 jj
  show Go X (d + K + 11) mc ms kX9_buildsKept Q 14 [(0, .ref a0)] [.int (v2)] M3 0 0
  exact g_iret dX9_buildsKept_14 rfl (Nat.zero_le _) (Nat.zero_le _) (hR _ _ j3 H)
/-! X9_add -/
def pX9_add (N K : Nat) (M : gM) (a0 : Nat) (x1 : Int32) (R : Int32 → gM → Prop) : Prop := pX9_addsKept N K M a0 x1 (fun v1 M1 => pX9_goodOr N K M1 a0 v1 (fun v2 M2 => R v2 M2))
set_option maxRecDepth 10000 in
theorem uX9_add {N K : Nat} {X : gX} {d mc ms : Nat} {Q : Option Value → gM → Prop} {M : gM} {a0 : Nat} {x1 : Int32} {R : Int32 → gM → Prop} (s0 : Mo M a0) (H : pX9_add N K M a0 x1 R) (hR : ∀ (v : Int32) (M1 : gM), Sm M M1 → R v M1 → Q (some (.int v)) M1) : Cn X (d + K + 11) mc ms kX9_add [.ref a0, .int (x1)] M Q := by
  unfold pX9_add at H
  refine g_meth rfl rfl (Nat.le_of_ble_eq_true rfl) rfl ?_
  refine g_aload_n 0 1 dX9_add_0 rfl rfl ?_
  refine g_aload_n 0 2 dX9_add_1 rfl rfl ?_
  refine g_iload_n 1 3 dX9_add_2 rfl rfl ?_
  refine g_callV (mc1 := 0) (ms1 := 0) (b := a0) (rest := [.ref a0]) (av := [.int (x1)]) kX9_addsKept 6 dX9_add_3 rfl rfl mbX9_383 imX9_addsKept seX9_addsKept gcl9.1 s0.1 (Nat.le_of_ble_eq_true rfl) (Nat.zero_le _) (Nat.zero_le _) (uX9_addsKept (N := N) (K := K) s0 H (fun v1 M1 jj H => ?_))
  have j1 : Sm M M1 := jj
  show Go X (d + K + 11) mc ms kX9_add Q 6 [(0, .ref a0), (1, .int (x1))] [.int (v1), .ref a0] M1 0 0
  refine g_callV (mc1 := 0) (ms1 := 0) (b := a0) (rest := []) (av := [.int (v1)]) kX9_goodOr 9 dX9_add_6 rfl rfl mbX9_386 imX9_goodOr seX9_goodOr gcl9.1 (Sm.k j1 s0.1) (Nat.le_of_ble_eq_true rfl) (Nat.zero_le _) (Nat.zero_le _) (uX9_goodOr (N := N) (K := K) (Mo.sm j1 s0) H (fun v2 M2 jj H => ?_))
  have j2 : Sm M M2 := Sm.tr j1 jj
  show Go X (d + K + 11) mc ms kX9_add Q 9 [(0, .ref a0), (1, .int (x1))] [.int (v2)] M2 0 0
  exact g_iret dX9_add_9 rfl (Nat.zero_le _) (Nat.zero_le _) (hR _ _ j2 H)
/-! X9_build -/
def pX9_build (N K : Nat) (M : gM) (a0 : Nat) (R : Int32 → gM → Prop) : Prop := pX9_buildsKept N K M a0 (fun v1 M1 => pX9_goodOr N K M1 a0 v1 (fun v2 M2 => R v2 M2))
set_option maxRecDepth 10000 in
theorem uX9_build {N K : Nat} {X : gX} {d mc ms : Nat} {Q : Option Value → gM → Prop} {M : gM} {a0 : Nat} {R : Int32 → gM → Prop} (s0 : Mo M a0) (H : pX9_build N K M a0 R) (hR : ∀ (v : Int32) (M1 : gM), Sm M M1 → R v M1 → Q (some (.int v)) M1) : Cn X (d + K + 12) mc ms kX9_build [.ref a0] M Q := by
  unfold pX9_build at H
  refine g_meth rfl rfl (Nat.le_of_ble_eq_true rfl) rfl ?_
  refine g_aload_n 0 1 dX9_build_0 rfl rfl ?_
  refine g_aload_n 0 2 dX9_build_1 rfl rfl ?_
  refine g_callV (mc1 := 0) (ms1 := 0) (b := a0) (rest := [.ref a0]) (av := []) kX9_buildsKept 5 dX9_build_2 rfl rfl mbX9_398 imX9_buildsKept seX9_buildsKept gcl9.1 s0.1 (Nat.le_of_ble_eq_true rfl) (Nat.zero_le _) (Nat.zero_le _) (uX9_buildsKept (N := N) (K := K) s0 H (fun v1 M1 jj H => ?_))
  have j1 : Sm M M1 := jj
  show Go X (d + K + 12) mc ms kX9_build Q 5 [(0, .ref a0)] [.int (v1), .ref a0] M1 0 0
  refine g_callV (mc1 := 0) (ms1 := 0) (b := a0) (rest := []) (av := [.int (v1)]) kX9_goodOr 8 dX9_build_5 rfl rfl mbX9_386 imX9_goodOr seX9_goodOr gcl9.1 (Sm.k j1 s0.1) (Nat.le_of_ble_eq_true rfl) (Nat.zero_le _) (Nat.zero_le _) (uX9_goodOr (N := N) (K := K) (Mo.sm j1 s0) H (fun v2 M2 jj H => ?_))
  have j2 : Sm M M2 := Sm.tr j1 jj
  show Go X (d + K + 12) mc ms kX9_build Q 8 [(0, .ref a0)] [.int (v2)] M2 0 0
  exact g_iret dX9_build_8 rfl (Nat.zero_le _) (Nat.zero_le _) (hR _ _ j2 H)
/-! X9_peeled -/
def pX9_peeled (N K : Nat) (M : gM) (a0 : Nat) (x1 : Int32) (x2 : Int32) (R : Int32 → gM → Prop) : Prop := ((x1 < 0 → R (-1) M) ∧ (¬ x1 < 0 → ∀ v1 : Int32, v1 = (fX9_lies x2 0 1) → ((¬ v1 = 0 → pX9_laysRanks N K M a0 (g_mi M (a0 + 2) 32) (fun M1 => pX9_peels N K M1 a0 (g_mi M1 (a0 + 2) 32) (fun M2 => ((x1 < ((g_mi M2 (a0 + 2) 0) - (g_mi M2 a0 35)) → ((¬ x2 = 0 → (vp_in (x1) 30) ∧ R (g_mi M2 (a0 + 14) (x1).toNatClampNeg) M2) ∧ (x2 = 0 → (vp_in (x1) 30) ∧ R (g_mi M2 (a0 + 13) (x1).toNatClampNeg) M2))) ∧ (¬ x1 < ((g_mi M2 (a0 + 2) 0) - (g_mi M2 a0 35)) → R (-1) M2))))) ∧ (v1 = 0 → R (-1) M))))
set_option maxRecDepth 10000 in
theorem uX9_peeled {N K : Nat} {X : gX} {d mc ms : Nat} {Q : Option Value → gM → Prop} {M : gM} {a0 : Nat} {x1 : Int32} {x2 : Int32} {R : Int32 → gM → Prop} (s0 : Mo M a0) (H : pX9_peeled N K M a0 x1 x2 R) (hR : ∀ (v : Int32) (M1 : gM), Sm M M1 → R v M1 → Q (some (.int v)) M1) : Cn X (d + K + 10) mc ms kX9_peeled [.ref a0, .int (x1), .int (x2)] M Q := by
  unfold pX9_peeled at H
  refine g_meth rfl rfl (Nat.le_of_ble_eq_true rfl) rfl ?_
  refine g_iload_n 1 1 dX9_peeled_0 rfl rfl ?_
  refine g_if_lt 13 4 dX9_peeled_1 rfl rfl (fun c1 => ?_) (fun c1 => ?_)
  · skip
    replace H := H.1 c1
    refine g_iconst ((-1)) 14 dX9_peeled_13 rfl rfl ?_
    exact g_iret dX9_peeled_14 rfl (Nat.zero_le _) (Nat.zero_le _) (hR _ _ Sm.rf H)
  · skip
    replace H := H.2 c1
    refine g_iload_n 2 5 dX9_peeled_4 rfl rfl ?_
    refine g_iconst (0) 6 dX9_peeled_5 rfl rfl ?_
    refine g_iconst (1) 7 dX9_peeled_6 rfl rfl ?_
    refine g_callS (mc1 := 0) (ms1 := 0) (rest := []) (av := [.int (x2), .int (0), .int (1)]) kX9_lies 10 dX9_peeled_7 rfl rfl mbX9_18 smX9_lies (Nat.le_of_ble_eq_true rfl) (Nat.zero_le _) (Nat.zero_le _) (tX9_lies  ?_)
    show Go X (d + K + 10) mc ms kX9_peeled Q 10 [(0, .ref a0), (1, .int (x1)), (2, .int (x2))] [.int ((fX9_lies x2 0 1))] M 0 0
    generalize hv1 : (fX9_lies x2 0 1) = v1
    replace H := H v1 hv1.symm
    refine g_if_ne 15 13 dX9_peeled_10 rfl rfl (fun c2 => ?_) (fun c2 => ?_)
    · skip
      replace H := H.1 c2
      refine g_aload_n 0 16 dX9_peeled_15 rfl rfl ?_
      refine g_aload_n 0 17 dX9_peeled_16 rfl rfl ?_
      refine g_getR 20 (a0 + 2) dX9_peeled_17 rfl flX9_28 s0.1 s0.2.2.2.1 ?_
      refine g_bipush (32) 22 dX9_peeled_20 rfl rfl ?_
      refine h_iaload 23 32 dX9_peeled_22 rfl rfl s0.2.2.2.2.1 (vp_lit rfl) ?_
      refine g_callV (mc1 := 0) (ms1 := 0) (b := a0) (rest := []) (av := [.int ((g_mi M (a0 + 2) 32))]) kX9_laysRanks 26 dX9_peeled_23 rfl rfl mbX9_356 imX9_laysRanks seX9_laysRanks gcl9.1 s0.1 (Nat.le_of_ble_eq_true rfl) (Nat.zero_le _) (Nat.zero_le _) (uX9_laysRanks (N := N) (K := K) s0 H (fun M1 jj H => ?_))
      have j1 : Sm M M1 := jj
      show Go X (d + K + 10) mc ms kX9_peeled Q 26 [(0, .ref a0), (1, .int (x1)), (2, .int (x2))] [] M1 0 0
      refine g_aload_n 0 27 dX9_peeled_26 rfl rfl ?_
      refine g_aload_n 0 28 dX9_peeled_27 rfl rfl ?_
      refine g_getR 31 (a0 + 2) dX9_peeled_28 rfl flX9_28 (Sm.k j1 s0.1) (Sm.r j1 s0.2.2.2.1) ?_
      refine g_bipush (32) 33 dX9_peeled_31 rfl rfl ?_
      refine h_iaload 34 32 dX9_peeled_33 rfl rfl (Sm.k j1 s0.2.2.2.2.1) (vp_lit rfl) ?_
      refine g_callV (mc1 := 0) (ms1 := 0) (b := a0) (rest := []) (av := [.int ((g_mi M1 (a0 + 2) 32))]) kX9_peels 37 dX9_peeled_34 rfl rfl mbX9_344 imX9_peels seX9_peels gcl9.1 (Sm.k j1 s0.1) (Nat.le_of_ble_eq_true rfl) (Nat.zero_le _) (Nat.zero_le _) (uX9_peels (N := N) (K := K) (Mo.sm j1 s0) H (fun M2 jj H => ?_))
      have j2 : Sm M M2 := Sm.tr j1 jj
      show Go X (d + K + 10) mc ms kX9_peeled Q 37 [(0, .ref a0), (1, .int (x1)), (2, .int (x2))] [] M2 0 0
      refine g_iload_n 1 38 dX9_peeled_37 rfl rfl ?_
      refine g_aload_n 0 39 dX9_peeled_38 rfl rfl ?_
      refine g_getR 42 (a0 + 2) dX9_peeled_39 rfl flX9_28 (Sm.k j2 s0.1) (Sm.r j2 s0.2.2.2.1) ?_
      refine g_iconst (0) 43 dX9_peeled_42 rfl rfl ?_
      refine h_iaload 44 0 dX9_peeled_43 rfl rfl (Sm.k j2 s0.2.2.2.2.1) (vp_lit rfl) ?_
      refine g_aload_n 0 45 dX9_peeled_44 rfl rfl ?_
      refine g_getI 48 dX9_peeled_45 rfl flX9_338 (Sm.k j2 s0.1) ?_
      refine g_isub 49 dX9_peeled_48 rfl ?_
      refine g_icmp_lt 54 52 dX9_peeled_49 rfl rfl (fun c3 => ?_) (fun c3 => ?_)
      · skip
        replace H := H.1 c3
        refine g_iload_n 2 55 dX9_peeled_54 rfl rfl ?_
        refine g_if_ne 67 58 dX9_peeled_55 rfl rfl (fun c4 => ?_) (fun c4 => ?_)
        · skip
          replace H := H.1 c4
          refine g_aload_n 0 68 dX9_peeled_67 rfl rfl ?_
          refine g_getR 71 (a0 + 14) dX9_peeled_68 rfl flX9_69 (Sm.k j2 s0.1) (Sm.r j2 s0.2.2.2.2.2.2.2.2.2.2.2.2.2.2.2.2.2.2.2.2.2.2.2.2.2.2.2.1) ?_
          refine g_iload_n 1 72 dX9_peeled_71 rfl rfl ?_
          obtain ⟨b1, H⟩ := H
          refine h_iaload 73 (x1).toNatClampNeg dX9_peeled_72 rfl rfl (Sm.k j2 s0.2.2.2.2.2.2.2.2.2.2.2.2.2.2.2.2.2.2.2.2.2.2.2.2.2.2.2.2.1) b1 ?_
          exact g_iret dX9_peeled_73 rfl (Nat.zero_le _) (Nat.zero_le _) (hR _ _ j2 H)
        · skip
          replace H := H.2 c4
          refine g_aload_n 0 59 dX9_peeled_58 rfl rfl ?_
          refine g_getR 62 (a0 + 13) dX9_peeled_59 rfl flX9_66 (Sm.k j2 s0.1) (Sm.r j2 s0.2.2.2.2.2.2.2.2.2.2.2.2.2.2.2.2.2.2.2.2.2.2.2.2.2.1) ?_
          refine g_iload_n 1 63 dX9_peeled_62 rfl rfl ?_
          obtain ⟨b2, H⟩ := H
          refine h_iaload 64 (x1).toNatClampNeg dX9_peeled_63 rfl rfl (Sm.k j2 s0.2.2.2.2.2.2.2.2.2.2.2.2.2.2.2.2.2.2.2.2.2.2.2.2.2.2.1) b2 ?_
          refine g_goto 73 dX9_peeled_64 rfl ?_
          exact g_iret dX9_peeled_73 rfl (Nat.zero_le _) (Nat.zero_le _) (hR _ _ j2 H)
      · skip
        replace H := H.2 c3
        refine g_iconst ((-1)) 53 dX9_peeled_52 rfl rfl ?_
        exact g_iret dX9_peeled_53 rfl (Nat.zero_le _) (Nat.zero_le _) (hR _ _ j2 H)
    · skip
      replace H := H.2 c2
      refine g_iconst ((-1)) 14 dX9_peeled_13 rfl rfl ?_
      exact g_iret dX9_peeled_14 rfl (Nat.zero_le _) (Nat.zero_le _) (hR _ _ Sm.rf H)
/-! X9_compare -/
def pX9_compare (N K : Nat) (M : gM) (a0 : Nat) (x1 : Int32) (x2 : Int32) (R : Int32 → gM → Prop) : Prop := (EX9_isLaw M a0 x1) ∧ ∀ v1 : Int32, v1 = (fX9_isLaw M a0 x1) → ((v1 = 0 → R (-1) M) ∧ (¬ v1 = 0 → (EX9_isVertex M a0 x2) ∧ ∀ v2 : Int32, v2 = (fX9_isVertex M a0 x2) → ((¬ v2 = 0 → ∀ M1 : gM, M1 = (g_wi M (a0 + 2) 204 x1) → pX9_ranksOf N K M1 a0 x2 (g_mi M1 (a0 + 2) 32) (fun v3 M2 => ∀ M3 : gM, M3 = (g_wi M2 (a0 + 2) 204 (g_mi M (a0 + 2) 204)) → R v3 M3)) ∧ (v2 = 0 → R (-1) M))))
set_option maxRecDepth 10000 in
theorem uX9_compare {N K : Nat} {X : gX} {d mc ms : Nat} {Q : Option Value → gM → Prop} {M : gM} {a0 : Nat} {x1 : Int32} {x2 : Int32} {R : Int32 → gM → Prop} (s0 : Mo M a0) (H : pX9_compare N K M a0 x1 x2 R) (hR : ∀ (v : Int32) (M1 : gM), Sm M M1 → R v M1 → Q (some (.int v)) M1) : Cn X (d + K + 9) mc ms kX9_compare [.ref a0, .int (x1), .int (x2)] M Q := by
  unfold pX9_compare at H
  refine g_meth rfl rfl (Nat.le_of_ble_eq_true rfl) rfl ?_
  refine g_aload_n 0 1 dX9_compare_0 rfl rfl ?_
  refine g_iload_n 1 2 dX9_compare_1 rfl rfl ?_
  obtain ⟨b1, H⟩ := H
  refine g_callV (mc1 := 0) (ms1 := 0) (b := a0) (rest := []) (av := [.int (x1)]) kX9_isLaw 5 dX9_compare_2 rfl rfl mbX9_263 imX9_isLaw seX9_isLaw gcl9.1 s0.1 (Nat.le_of_ble_eq_true rfl) (Nat.zero_le _) (Nat.zero_le _) (tX9_isLaw s0 b1 ?_)
  show Go X (d + K + 9) mc ms kX9_compare Q 5 [(0, .ref a0), (1, .int (x1)), (2, .int (x2))] [.int ((fX9_isLaw M a0 x1))] M 0 0
  generalize hv1 : (fX9_isLaw M a0 x1) = v1
  replace H := H v1 hv1.symm
  refine g_if_eq 16 8 dX9_compare_5 rfl rfl (fun c1 => ?_) (fun c1 => ?_)
  · skip
    replace H := H.1 c1
    refine g_iconst ((-1)) 17 dX9_compare_16 rfl rfl ?_
    exact g_iret dX9_compare_17 rfl (Nat.zero_le _) (Nat.zero_le _) (hR _ _ Sm.rf H)
  · skip
    replace H := H.2 c1
    refine g_aload_n 0 9 dX9_compare_8 rfl rfl ?_
    refine g_iload_n 2 10 dX9_compare_9 rfl rfl ?_
    obtain ⟨b2, H⟩ := H
    refine g_callV (mc1 := 0) (ms1 := 0) (b := a0) (rest := []) (av := [.int (x2)]) kX9_isVertex 13 dX9_compare_10 rfl rfl mbX9_137 imX9_isVertex seX9_isVertex gcl9.1 s0.1 (Nat.le_of_ble_eq_true rfl) (Nat.zero_le _) (Nat.zero_le _) (tX9_isVertex s0 b2 ?_)
    show Go X (d + K + 9) mc ms kX9_compare Q 13 [(0, .ref a0), (1, .int (x1)), (2, .int (x2))] [.int ((fX9_isVertex M a0 x2))] M 0 0
    generalize hv2 : (fX9_isVertex M a0 x2) = v2
    replace H := H v2 hv2.symm
    refine g_if_ne 18 16 dX9_compare_13 rfl rfl (fun c2 => ?_) (fun c2 => ?_)
    · skip
      replace H := H.1 c2
      refine g_aload_n 0 19 dX9_compare_18 rfl rfl ?_
      refine g_getR 22 (a0 + 2) dX9_compare_19 rfl flX9_28 s0.1 s0.2.2.2.1 ?_
      refine g_sipush (204) 25 dX9_compare_22 rfl rfl ?_
      refine h_iaload 26 204 dX9_compare_25 rfl rfl s0.2.2.2.2.1 (vp_lit rfl) ?_
      refine g_istore_n 27 [(3, .int ((g_mi M (a0 + 2) 204))), (0, .ref a0), (1, .int (x1)), (2, .int (x2))] dX9_compare_26 rfl (Nat.le_of_ble_eq_true rfl) rfl ?_
      refine g_aload_n 1 28 dX9_compare_27 rfl rfl ?_
      refine g_getR 31 (a0 + 2) dX9_compare_28 rfl flX9_28 s0.1 s0.2.2.2.1 ?_
      refine g_sipush (204) 34 dX9_compare_31 rfl rfl ?_
      refine g_iload_n 2 35 dX9_compare_34 rfl rfl ?_
      refine h_iastore 36 204 dX9_compare_35 rfl rfl s0.2.2.2.2.1 (vp_lit rfl) ?_
      generalize hM1 : (g_wi M (a0 + 2) 204 x1) = M1
      have j1 : Sm M M1 := by rw [← hM1]; exact (Sm.wi Sm.rf)
      replace H := H M1 hM1.symm
      refine g_aload_n 1 37 dX9_compare_36 rfl rfl ?_
      refine g_iload_n 3 38 dX9_compare_37 rfl rfl ?_
      refine g_aload_n 1 39 dX9_compare_38 rfl rfl ?_
      refine g_getR 42 (a0 + 2) dX9_compare_39 rfl flX9_28 (Sm.k j1 s0.1) (Sm.r j1 s0.2.2.2.1) ?_
      refine g_bipush (32) 44 dX9_compare_42 rfl rfl ?_
      refine h_iaload 45 32 dX9_compare_44 rfl rfl (Sm.k j1 s0.2.2.2.2.1) (vp_lit rfl) ?_
      refine g_callV (mc1 := 0) (ms1 := 0) (b := a0) (rest := []) (av := [.int (x2), .int ((g_mi M1 (a0 + 2) 32))]) kX9_ranksOf 48 dX9_compare_45 rfl rfl mbX9_144 imX9_ranksOf seX9_ranksOf gcl9.1 (Sm.k j1 s0.1) (Nat.le_of_ble_eq_true rfl) (Nat.zero_le _) (Nat.zero_le _) (uX9_ranksOf (N := N) (K := K) (Mo.sm j1 s0) H (fun v3 M2 jj H => ?_))
      have j2 : Sm M M2 := Sm.tr j1 jj
      show Go X (d + K + 9) mc ms kX9_compare Q 48 [(3, .int ((g_mi M (a0 + 2) 204))), (0, .ref a0), (1, .int (x1)), (2, .int (x2))] [.int (v3)] M2 0 0
      refine g_istore 50 [(4, .int (v3)), (3, .int ((g_mi M (a0 + 2) 204))), (0, .ref a0), (1, .int (x1)), (2, .int (x2))] dX9_compare_48 rfl (Nat.le_of_ble_eq_true rfl) rfl ?_
      refine g_aload_n 2 51 dX9_compare_50 rfl rfl ?_
      refine g_getR 54 (a0 + 2) dX9_compare_51 rfl flX9_28 (Sm.k j2 s0.1) (Sm.r j2 s0.2.2.2.1) ?_
      refine g_sipush (204) 57 dX9_compare_54 rfl rfl ?_
      refine g_iload_n 1 58 dX9_compare_57 rfl rfl ?_
      refine h_iastore 59 204 dX9_compare_58 rfl rfl (Sm.k j2 s0.2.2.2.2.1) (vp_lit rfl) ?_
      generalize hM3 : (g_wi M2 (a0 + 2) 204 (g_mi M (a0 + 2) 204)) = M3
      have j3 : Sm M M3 := by rw [← hM3]; exact (Sm.wi j2)
      replace H := H M3 hM3.symm
      refine g_iload 0 61 dX9_compare_59 rfl rfl ?_
      exact g_iret dX9_compare_61 rfl (Nat.zero_le _) (Nat.zero_le _) (hR _ _ j3 H)
    · skip
      replace H := H.2 c2
      refine g_iconst ((-1)) 17 dX9_compare_16 rfl rfl ?_
      exact g_iret dX9_compare_17 rfl (Nat.zero_le _) (Nat.zero_le _) (hR _ _ Sm.rf H)
/-! X9_goesAlong -/
def pX9_goesAlong_179 (N K : Nat) (R : gM → Prop) (M : gM) (a0 : Nat) : Prop := ∀ M1 : gM, M1 = (g_wi M a0 22 ((g_mi M a0 22) + 1)) → R M1
def pX9_goesAlong_156 (N K : Nat) (R : gM → Prop) (M : gM) (a0 : Nat) : Prop := (((g_mi M a0 45) = 0 → ∀ M1 : gM, M1 = (g_wi M a0 45 0) → pX9_goesAlong_179 N K R M1 a0) ∧ (¬ (g_mi M a0 45) = 0 → ((¬ (g_mi M a0 24) = 0 → ∀ M2 : gM, M2 = (g_wi M a0 45 0) → pX9_goesAlong_179 N K R M2 a0) ∧ ((g_mi M a0 24) = 0 → ∀ M3 : gM, M3 = (g_wi M a0 45 1) → pX9_goesAlong_179 N K R M3 a0))))
def pX9_goesAlong_126 (N K : Nat) (R : gM → Prop) (M : gM) (a0 : Nat) (x2 : Int32) : Prop := ∀ M1 : gM, M1 = (g_wi M a0 24 0) → pX9_passes0 N K M1 a0 3 (fun v1 M2 => ((v1 = 0 → ∀ M3 : gM, M3 = (g_wi M2 a0 45 1) → pX9_goesAlong_156 N K R M3 a0) ∧ (¬ v1 = 0 → pX9_testOf N K M2 a0 x2 (fun v2 M4 => ((v2 = 0 → ∀ M5 : gM, M5 = (g_wi M4 a0 45 0) → pX9_goesAlong_156 N K R M5 a0) ∧ (¬ v2 = 0 → ∀ M6 : gM, M6 = (g_wi M4 a0 45 1) → pX9_goesAlong_156 N K R M6 a0))))))
def pX9_goesAlong_85 (N K : Nat) (R : gM → Prop) (M : gM) (a0 : Nat) (x2 : Int32) : Prop := ∀ M1 : gM, M1 = (g_wi M a0 42 1) → pX9_passes0 N K M1 a0 22 (fun v1 M2 => ((v1 = 0 → pX9_goesAlong_126 N K R M2 a0 x2) ∧ (¬ v1 = 0 → (vp_in ((3012 + (g_mi M2 a0 22))) 5812) ∧ ∀ M3 : gM, M3 = (g_wi M2 a0 42 (g_mi M2 (a0 + 2) ((3012 + (g_mi M2 a0 22))).toNatClampNeg)) → ∀ M4 : gM, M4 = (g_wi M3 a0 22 ((g_mi M3 a0 22) + 1)) → pX9_goesAlong_126 N K R M4 a0 x2)))
def pX9_goesAlong_69 (N K : Nat) (R : gM → Prop) (M : gM) (a0 : Nat) (x2 : Int32) : Prop := ((¬ (g_mi M a0 24) = 0 → ∀ M1 : gM, M1 = (g_wi M a0 44 0) → pX9_goesAlong_85 N K R M1 a0 x2) ∧ ((g_mi M a0 24) = 0 → ∀ M2 : gM, M2 = (g_wi M a0 44 1) → pX9_goesAlong_85 N K R M2 a0 x2))
def pX9_goesAlong (N K : Nat) (M : gM) (a0 : Nat) (x1 : Int32) (x2 : Int32) (R : gM → Prop) : Prop := ∀ M1 : gM, M1 = (g_wi M a0 25 1) → ∀ M2 : gM, M2 = (g_wi M1 a0 23 x1) → ∀ M3 : gM, M3 = (g_wi M2 a0 22 (g_mi M2 a0 41)) → (EX9_codeAt M3 a0 (g_mi M3 a0 22)) ∧ ∀ v1 : Int32, v1 = (fX9_codeAt M3 a0 (g_mi M3 a0 22)) → ∀ M4 : gM, M4 = (g_wi M3 a0 43 v1) → ∀ M5 : gM, M5 = (g_wi M4 a0 22 ((g_mi M4 a0 22) + 1)) → ∀ M6 : gM, M6 = (g_wi M5 a0 24 0) → ((¬ (g_mi M6 a0 43) = 21 → pX9_sumOf N K M6 a0 x2 (fun v2 M7 => ∀ M8 : gM, M8 = (g_wl M7 (a0 + 22) 0 v2) → pX9_goesAlong_69 N K R M8 a0 x2)) ∧ ((g_mi M6 a0 43) = 21 → ∀ M9 : gM, M9 = (g_wl M6 (a0 + 22) 0 0) → pX9_goesAlong_69 N K R M9 a0 x2))
set_option maxRecDepth 10000 in
theorem uxX9_goesAlong_179 {N K : Nat} {X : gX} {d mc ms : Nat} {Q : Option Value → gM → Prop} {R : gM → Prop} {M : gM} {a0 : Nat} (s0 : Mo M a0) (H : pX9_goesAlong_179 N K R M a0) (hR : ∀ (M1 : gM), Sl M M1 → R M1 → Q none M1) : Go X (d + K + 7) mc ms kX9_goesAlong Q 179 [(0, .ref a0)] [] M 0 0 := by
  unfold pX9_goesAlong_179 at H
  refine g_aload_n 0 180 dX9_goesAlong_179 rfl rfl ?_
  refine g_dup 181 dX9_goesAlong_180 rfl rfl ?_
  refine g_getI 184 dX9_goesAlong_181 rfl flX9_269 s0.1 ?_
  refine g_iconst (1) 185 dX9_goesAlong_184 rfl rfl ?_
  refine g_iadd 186 dX9_goesAlong_185 rfl ?_
  refine g_putI 189 dX9_goesAlong_186 rfl flX9_269 s0.1 ?_
  generalize hM1 : (g_wi M a0 22 ((g_mi M a0 22) + 1)) = M1
  have j1 : Sm M M1 := by rw [← hM1]; exact (Sm.wi Sm.rf)
  replace H := H M1 hM1.symm
  exact g_vret dX9_goesAlong_189 rfl (Nat.zero_le _) (Nat.zero_le _) (hR _ (Sm.l j1) H)
set_option maxRecDepth 10000 in
theorem uxX9_goesAlong_156 {N K : Nat} {X : gX} {d mc ms : Nat} {Q : Option Value → gM → Prop} {R : gM → Prop} {M : gM} {a0 : Nat} (s0 : Mo M a0) (H : pX9_goesAlong_156 N K R M a0) (hR : ∀ (M1 : gM), Sl M M1 → R M1 → Q none M1) : Go X (d + K + 7) mc ms kX9_goesAlong Q 156 [(0, .ref a0)] [] M 0 0 := by
  unfold pX9_goesAlong_156 at H
  refine g_aload_n 0 157 dX9_goesAlong_156 rfl rfl ?_
  refine g_aload_n 0 158 dX9_goesAlong_157 rfl rfl ?_
  refine g_getI 161 dX9_goesAlong_158 rfl flX9_458 s0.1 ?_
  refine g_if_eq 175 164 dX9_goesAlong_161 rfl rfl (fun c1 => ?_) (fun c1 => ?_)
  · skip
    replace H := H.1 c1
    refine g_iconst (0) 176 dX9_goesAlong_175 rfl rfl ?_
    refine g_putZ 179 dX9_goesAlong_176 rfl flX9_458 s0.1 (by decide) ?_
    generalize hM1 : (g_wi M a0 45 0) = M1
    have j1 : Sm M M1 := by rw [← hM1]; exact (Sm.wi Sm.rf)
    replace H := H M1 hM1.symm
    exact uxX9_goesAlong_179 (N := N) (K := K) (Mo.sm j1 s0) H (fun M1 j r => hR M1 (Sl.tr (Sm.l j1) j) r)
  · skip
    replace H := H.2 c1
    refine g_aload_n 0 165 dX9_goesAlong_164 rfl rfl ?_
    refine g_getI 168 dX9_goesAlong_165 rfl flX9_279 s0.1 ?_
    refine g_if_ne 175 171 dX9_goesAlong_168 rfl rfl (fun c2 => ?_) (fun c2 => ?_)
    · skip
      replace H := H.1 c2
      refine g_iconst (0) 176 dX9_goesAlong_175 rfl rfl ?_
      refine g_putZ 179 dX9_goesAlong_176 rfl flX9_458 s0.1 (by decide) ?_
      generalize hM2 : (g_wi M a0 45 0) = M2
      have j2 : Sm M M2 := by rw [← hM2]; exact (Sm.wi Sm.rf)
      replace H := H M2 hM2.symm
      exact uxX9_goesAlong_179 (N := N) (K := K) (Mo.sm j2 s0) H (fun M1 j r => hR M1 (Sl.tr (Sm.l j2) j) r)
    · skip
      replace H := H.2 c2
      refine g_iconst (1) 172 dX9_goesAlong_171 rfl rfl ?_
      refine g_goto 176 dX9_goesAlong_172 rfl ?_
      refine g_putZ 179 dX9_goesAlong_176 rfl flX9_458 s0.1 (by decide) ?_
      generalize hM3 : (g_wi M a0 45 1) = M3
      have j3 : Sm M M3 := by rw [← hM3]; exact (Sm.wi Sm.rf)
      replace H := H M3 hM3.symm
      exact uxX9_goesAlong_179 (N := N) (K := K) (Mo.sm j3 s0) H (fun M1 j r => hR M1 (Sl.tr (Sm.l j3) j) r)
set_option maxRecDepth 10000 in
theorem uxX9_goesAlong_126 {N K : Nat} {X : gX} {d mc ms : Nat} {Q : Option Value → gM → Prop} {R : gM → Prop} {M : gM} {a0 : Nat} {x2 : Int32} (s0 : Mo M a0) (H : pX9_goesAlong_126 N K R M a0 x2) (hR : ∀ (M1 : gM), Sl M M1 → R M1 → Q none M1) : Go X (d + K + 7) mc ms kX9_goesAlong Q 126 [(0, .ref a0), (2, .int (x2))] [] M 0 0 := by
  unfold pX9_goesAlong_126 at H
  refine g_aload_n 0 127 dX9_goesAlong_126 rfl rfl ?_
  refine g_iconst (0) 128 dX9_goesAlong_127 rfl rfl ?_
  refine g_putZ 131 dX9_goesAlong_128 rfl flX9_279 s0.1 (by decide) ?_
  generalize hM1 : (g_wi M a0 24 0) = M1
  have j1 : Sm M M1 := by rw [← hM1]; exact (Sm.wi Sm.rf)
  replace H := H M1 hM1.symm
  refine g_aload_n 0 132 dX9_goesAlong_131 rfl rfl ?_
  refine g_aload_n 0 133 dX9_goesAlong_132 rfl rfl ?_
  refine g_iconst (3) 134 dX9_goesAlong_133 rfl rfl ?_
  refine g_callV (mc1 := 0) (ms1 := 0) (b := a0) (rest := [.ref a0]) (av := [.int (3)]) kX9_passes0 137 dX9_goesAlong_134 rfl rfl mbX9_293 imX9_passes0 seX9_passes0 gcl9.1 (Sm.k j1 s0.1) (Nat.le_of_ble_eq_true rfl) (Nat.zero_le _) (Nat.zero_le _) (uX9_passes0 (N := N) (K := K) (Mo.sm j1 s0) H (fun v1 M2 jj H => ?_))
  have j2 : Sm M M2 := Sm.tr j1 jj
  show Go X (d + K + 7) mc ms kX9_goesAlong Q 137 [(0, .ref a0), (2, .int (x2))] [.int (v1), .ref a0] M2 0 0
  refine g_if_eq 148 140 dX9_goesAlong_137 rfl rfl (fun c1 => ?_) (fun c1 => ?_)
  · skip
    replace H := H.1 c1
    refine g_iconst (1) 149 dX9_goesAlong_148 rfl rfl ?_
    refine g_goto 153 dX9_goesAlong_149 rfl ?_
    refine g_putZ 156 dX9_goesAlong_153 rfl flX9_458 (Sm.k j2 s0.1) (by decide) ?_
    generalize hM3 : (g_wi M2 a0 45 1) = M3
    have j3 : Sm M M3 := by rw [← hM3]; exact (Sm.wi j2)
    replace H := H M3 hM3.symm
    exact g_sub [0] _ rfl (uxX9_goesAlong_156 (N := N) (K := K) (Mo.sm j3 s0) H (fun M1 j r => hR M1 (Sl.tr (Sm.l j3) j) r))
  · skip
    replace H := H.2 c1
    refine g_aload_n 0 141 dX9_goesAlong_140 rfl rfl ?_
    refine g_iload_n 1 142 dX9_goesAlong_141 rfl rfl ?_
    refine g_callV (mc1 := 0) (ms1 := 0) (b := a0) (rest := [.ref a0]) (av := [.int (x2)]) kX9_testOf 145 dX9_goesAlong_142 rfl rfl mbX9_323 imX9_testOf seX9_testOf gcl9.1 (Sm.k j2 s0.1) (Nat.le_of_ble_eq_true rfl) (Nat.zero_le _) (Nat.zero_le _) (uX9_testOf (N := N) (K := K) (Mo.sm j2 s0) H (fun v2 M4 jj H => ?_))
    have j4 : Sm M M4 := Sm.tr j2 jj
    show Go X (d + K + 7) mc ms kX9_goesAlong Q 145 [(0, .ref a0), (2, .int (x2))] [.int (v2), .ref a0] M4 0 0
    refine g_if_eq 152 148 dX9_goesAlong_145 rfl rfl (fun c2 => ?_) (fun c2 => ?_)
    · skip
      replace H := H.1 c2
      refine g_iconst (0) 153 dX9_goesAlong_152 rfl rfl ?_
      refine g_putZ 156 dX9_goesAlong_153 rfl flX9_458 (Sm.k j4 s0.1) (by decide) ?_
      generalize hM5 : (g_wi M4 a0 45 0) = M5
      have j5 : Sm M M5 := by rw [← hM5]; exact (Sm.wi j4)
      replace H := H M5 hM5.symm
      exact g_sub [0] _ rfl (uxX9_goesAlong_156 (N := N) (K := K) (Mo.sm j5 s0) H (fun M1 j r => hR M1 (Sl.tr (Sm.l j5) j) r))
    · skip
      replace H := H.2 c2
      refine g_iconst (1) 149 dX9_goesAlong_148 rfl rfl ?_
      refine g_goto 153 dX9_goesAlong_149 rfl ?_
      refine g_putZ 156 dX9_goesAlong_153 rfl flX9_458 (Sm.k j4 s0.1) (by decide) ?_
      generalize hM6 : (g_wi M4 a0 45 1) = M6
      have j6 : Sm M M6 := by rw [← hM6]; exact (Sm.wi j4)
      replace H := H M6 hM6.symm
      exact g_sub [0] _ rfl (uxX9_goesAlong_156 (N := N) (K := K) (Mo.sm j6 s0) H (fun M1 j r => hR M1 (Sl.tr (Sm.l j6) j) r))
set_option maxRecDepth 10000 in
theorem uxX9_goesAlong_85 {N K : Nat} {X : gX} {d mc ms : Nat} {Q : Option Value → gM → Prop} {R : gM → Prop} {M : gM} {a0 : Nat} {x2 : Int32} (s0 : Mo M a0) (H : pX9_goesAlong_85 N K R M a0 x2) (hR : ∀ (M1 : gM), Sl M M1 → R M1 → Q none M1) : Go X (d + K + 7) mc ms kX9_goesAlong Q 85 [(0, .ref a0), (2, .int (x2))] [] M 0 0 := by
  unfold pX9_goesAlong_85 at H
  refine g_aload_n 0 86 dX9_goesAlong_85 rfl rfl ?_
  refine g_iconst (1) 87 dX9_goesAlong_86 rfl rfl ?_
  refine g_putI 90 dX9_goesAlong_87 rfl flX9_455 s0.1 ?_
  generalize hM1 : (g_wi M a0 42 1) = M1
  have j1 : Sm M M1 := by rw [← hM1]; exact (Sm.wi Sm.rf)
  replace H := H M1 hM1.symm
  refine g_aload_n 0 91 dX9_goesAlong_90 rfl rfl ?_
  refine g_bipush (22) 93 dX9_goesAlong_91 rfl rfl ?_
  refine g_callV (mc1 := 0) (ms1 := 0) (b := a0) (rest := []) (av := [.int (22)]) kX9_passes0 96 dX9_goesAlong_93 rfl rfl mbX9_293 imX9_passes0 seX9_passes0 gcl9.1 (Sm.k j1 s0.1) (Nat.le_of_ble_eq_true rfl) (Nat.zero_le _) (Nat.zero_le _) (uX9_passes0 (N := N) (K := K) (Mo.sm j1 s0) H (fun v1 M2 jj H => ?_))
  have j2 : Sm M M2 := Sm.tr j1 jj
  show Go X (d + K + 7) mc ms kX9_goesAlong Q 96 [(0, .ref a0), (2, .int (x2))] [.int (v1)] M2 0 0
  refine g_if_eq 126 99 dX9_goesAlong_96 rfl rfl (fun c1 => ?_) (fun c1 => ?_)
  · skip
    replace H := H.1 c1
    exact uxX9_goesAlong_126 (N := N) (K := K) (Mo.sm j2 s0) H (fun M1 j r => hR M1 (Sl.tr (Sm.l j2) j) r)
  · skip
    replace H := H.2 c1
    refine g_aload_n 0 100 dX9_goesAlong_99 rfl rfl ?_
    refine g_aload_n 0 101 dX9_goesAlong_100 rfl rfl ?_
    refine g_getR 104 (a0 + 2) dX9_goesAlong_101 rfl flX9_28 (Sm.k j2 s0.1) (Sm.r j2 s0.2.2.2.1) ?_
    refine g_sipush (3012) 107 dX9_goesAlong_104 rfl rfl ?_
    refine g_aload_n 0 108 dX9_goesAlong_107 rfl rfl ?_
    refine g_getI 111 dX9_goesAlong_108 rfl flX9_269 (Sm.k j2 s0.1) ?_
    refine g_iadd 112 dX9_goesAlong_111 rfl ?_
    obtain ⟨b1, H⟩ := H
    refine h_iaload 113 ((3012 + (g_mi M2 a0 22))).toNatClampNeg dX9_goesAlong_112 rfl rfl (Sm.k j2 s0.2.2.2.2.1) b1 ?_
    refine g_putI 116 dX9_goesAlong_113 rfl flX9_455 (Sm.k j2 s0.1) ?_
    generalize hM3 : (g_wi M2 a0 42 (g_mi M2 (a0 + 2) ((3012 + (g_mi M2 a0 22))).toNatClampNeg)) = M3
    have j3 : Sm M M3 := by rw [← hM3]; exact (Sm.wi j2)
    replace H := H M3 hM3.symm
    refine g_aload_n 0 117 dX9_goesAlong_116 rfl rfl ?_
    refine g_dup 118 dX9_goesAlong_117 rfl rfl ?_
    refine g_getI 121 dX9_goesAlong_118 rfl flX9_269 (Sm.k j3 s0.1) ?_
    refine g_iconst (1) 122 dX9_goesAlong_121 rfl rfl ?_
    refine g_iadd 123 dX9_goesAlong_122 rfl ?_
    refine g_putI 126 dX9_goesAlong_123 rfl flX9_269 (Sm.k j3 s0.1) ?_
    generalize hM4 : (g_wi M3 a0 22 ((g_mi M3 a0 22) + 1)) = M4
    have j4 : Sm M M4 := by rw [← hM4]; exact (Sm.wi j3)
    replace H := H M4 hM4.symm
    exact uxX9_goesAlong_126 (N := N) (K := K) (Mo.sm j4 s0) H (fun M1 j r => hR M1 (Sl.tr (Sm.l j4) j) r)
set_option maxRecDepth 10000 in
theorem uxX9_goesAlong_69 {N K : Nat} {X : gX} {d mc ms : Nat} {Q : Option Value → gM → Prop} {R : gM → Prop} {M : gM} {a0 : Nat} {x2 : Int32} (s0 : Mo M a0) (H : pX9_goesAlong_69 N K R M a0 x2) (hR : ∀ (M1 : gM), Sl M M1 → R M1 → Q none M1) : Go X (d + K + 7) mc ms kX9_goesAlong Q 69 [(0, .ref a0), (2, .int (x2))] [] M 0 0 := by
  unfold pX9_goesAlong_69 at H
  refine g_aload_n 0 70 dX9_goesAlong_69 rfl rfl ?_
  refine g_aload_n 0 71 dX9_goesAlong_70 rfl rfl ?_
  refine g_getI 74 dX9_goesAlong_71 rfl flX9_279 s0.1 ?_
  refine g_if_ne 81 77 dX9_goesAlong_74 rfl rfl (fun c1 => ?_) (fun c1 => ?_)
  · skip
    replace H := H.1 c1
    refine g_iconst (0) 82 dX9_goesAlong_81 rfl rfl ?_
    refine g_putZ 85 dX9_goesAlong_82 rfl flX9_452 s0.1 (by decide) ?_
    generalize hM1 : (g_wi M a0 44 0) = M1
    have j1 : Sm M M1 := by rw [← hM1]; exact (Sm.wi Sm.rf)
    replace H := H M1 hM1.symm
    exact uxX9_goesAlong_85 (N := N) (K := K) (Mo.sm j1 s0) H (fun M1 j r => hR M1 (Sl.tr (Sm.l j1) j) r)
  · skip
    replace H := H.2 c1
    refine g_iconst (1) 78 dX9_goesAlong_77 rfl rfl ?_
    refine g_goto 82 dX9_goesAlong_78 rfl ?_
    refine g_putZ 85 dX9_goesAlong_82 rfl flX9_452 s0.1 (by decide) ?_
    generalize hM2 : (g_wi M a0 44 1) = M2
    have j2 : Sm M M2 := by rw [← hM2]; exact (Sm.wi Sm.rf)
    replace H := H M2 hM2.symm
    exact uxX9_goesAlong_85 (N := N) (K := K) (Mo.sm j2 s0) H (fun M1 j r => hR M1 (Sl.tr (Sm.l j2) j) r)
set_option maxRecDepth 10000 in
theorem uX9_goesAlong {N K : Nat} {X : gX} {d mc ms : Nat} {Q : Option Value → gM → Prop} {M : gM} {a0 : Nat} {x1 : Int32} {x2 : Int32} {R : gM → Prop} (s0 : Mo M a0) (H : pX9_goesAlong N K M a0 x1 x2 R) (hR : ∀ (M1 : gM), Sl M M1 → R M1 → Q none M1) : Cn X (d + K + 7) mc ms kX9_goesAlong [.ref a0, .int (x1), .int (x2)] M Q := by
  unfold pX9_goesAlong at H
  refine g_meth rfl rfl (Nat.le_of_ble_eq_true rfl) rfl ?_
  refine g_aload_n 0 1 dX9_goesAlong_0 rfl rfl ?_
  refine g_iconst (1) 2 dX9_goesAlong_1 rfl rfl ?_
  refine g_putZ 5 dX9_goesAlong_2 rfl flX9_299 s0.1 (by decide) ?_
  generalize hM1 : (g_wi M a0 25 1) = M1
  have j1 : Sm M M1 := by rw [← hM1]; exact (Sm.wi Sm.rf)
  replace H := H M1 hM1.symm
  refine g_aload_n 0 6 dX9_goesAlong_5 rfl rfl ?_
  refine g_iload_n 1 7 dX9_goesAlong_6 rfl rfl ?_
  refine g_putI 10 dX9_goesAlong_7 rfl flX9_266 (Sm.k j1 s0.1) ?_
  generalize hM2 : (g_wi M1 a0 23 x1) = M2
  have j2 : Sm M M2 := by rw [← hM2]; exact (Sm.wi j1)
  replace H := H M2 hM2.symm
  refine g_aload_n 0 11 dX9_goesAlong_10 rfl rfl ?_
  refine g_aload_n 0 12 dX9_goesAlong_11 rfl rfl ?_
  refine g_getI 15 dX9_goesAlong_12 rfl flX9_440 (Sm.k j2 s0.1) ?_
  refine g_putI 18 dX9_goesAlong_15 rfl flX9_269 (Sm.k j2 s0.1) ?_
  generalize hM3 : (g_wi M2 a0 22 (g_mi M2 a0 41)) = M3
  have j3 : Sm M M3 := by rw [← hM3]; exact (Sm.wi j2)
  replace H := H M3 hM3.symm
  refine g_aload_n 0 19 dX9_goesAlong_18 rfl rfl ?_
  refine g_aload_n 0 20 dX9_goesAlong_19 rfl rfl ?_
  refine g_aload_n 0 21 dX9_goesAlong_20 rfl rfl ?_
  refine g_getI 24 dX9_goesAlong_21 rfl flX9_269 (Sm.k j3 s0.1) ?_
  obtain ⟨b1, H⟩ := H
  refine g_callV (mc1 := 0) (ms1 := 0) (b := a0) (rest := [.ref a0]) (av := [.int ((g_mi M3 a0 22))]) kX9_codeAt 27 dX9_goesAlong_24 rfl rfl mbX9_272 imX9_codeAt seX9_codeAt gcl9.1 (Sm.k j3 s0.1) (Nat.le_of_ble_eq_true rfl) (Nat.zero_le _) (Nat.zero_le _) (tX9_codeAt (Mo.sm j3 s0) b1 ?_)
  show Go X (d + K + 7) mc ms kX9_goesAlong Q 27 [(0, .ref a0), (1, .int (x1)), (2, .int (x2))] [.int ((fX9_codeAt M3 a0 (g_mi M3 a0 22))), .ref a0] M3 0 0
  generalize hv1 : (fX9_codeAt M3 a0 (g_mi M3 a0 22)) = v1
  replace H := H v1 hv1.symm
  refine g_putI 30 dX9_goesAlong_27 rfl flX9_449 (Sm.k j3 s0.1) ?_
  generalize hM4 : (g_wi M3 a0 43 v1) = M4
  have j4 : Sm M M4 := by rw [← hM4]; exact (Sm.wi j3)
  replace H := H M4 hM4.symm
  refine g_aload_n 0 31 dX9_goesAlong_30 rfl rfl ?_
  refine g_dup 32 dX9_goesAlong_31 rfl rfl ?_
  refine g_getI 35 dX9_goesAlong_32 rfl flX9_269 (Sm.k j4 s0.1) ?_
  refine g_iconst (1) 36 dX9_goesAlong_35 rfl rfl ?_
  refine g_iadd 37 dX9_goesAlong_36 rfl ?_
  refine g_putI 40 dX9_goesAlong_37 rfl flX9_269 (Sm.k j4 s0.1) ?_
  generalize hM5 : (g_wi M4 a0 22 ((g_mi M4 a0 22) + 1)) = M5
  have j5 : Sm M M5 := by rw [← hM5]; exact (Sm.wi j4)
  replace H := H M5 hM5.symm
  refine g_aload_n 0 41 dX9_goesAlong_40 rfl rfl ?_
  refine g_iconst (0) 42 dX9_goesAlong_41 rfl rfl ?_
  refine g_putZ 45 dX9_goesAlong_42 rfl flX9_279 (Sm.k j5 s0.1) (by decide) ?_
  generalize hM6 : (g_wi M5 a0 24 0) = M6
  have j6 : Sm M M6 := by rw [← hM6]; exact (Sm.wi j5)
  replace H := H M6 hM6.symm
  refine g_aload_n 0 46 dX9_goesAlong_45 rfl rfl ?_
  refine g_getR 49 (a0 + 22) dX9_goesAlong_46 rfl flX9_97 (Sm.k j6 s0.1) (Sm.r j6 s0.2.2.2.2.2.2.2.2.2.2.2.2.2.2.2.2.2.2.2.2.2.2.2.2.2.2.2.2.2.2.2.2.2.2.2.2.2.2.2.2.2.2.2.1) ?_
  refine g_iconst (0) 50 dX9_goesAlong_49 rfl rfl ?_
  refine g_aload_n 0 51 dX9_goesAlong_50 rfl rfl ?_
  refine g_getI 54 dX9_goesAlong_51 rfl flX9_449 (Sm.k j6 s0.1) ?_
  refine g_bipush (21) 56 dX9_goesAlong_54 rfl rfl ?_
  refine g_icmp_ne 63 59 dX9_goesAlong_56 rfl rfl (fun c1 => ?_) (fun c1 => ?_)
  · skip
    replace H := H.1 c1
    refine g_aload_n 0 64 dX9_goesAlong_63 rfl rfl ?_
    refine g_iload_n 2 65 dX9_goesAlong_64 rfl rfl ?_
    refine g_callV (mc1 := 0) (ms1 := 0) (b := a0) (rest := [.int (0), .ref (a0 + 22)]) (av := [.int (x2)]) kX9_sumOf 68 dX9_goesAlong_65 rfl rfl mbX9_296 imX9_sumOf seX9_sumOf gcl9.1 (Sm.k j6 s0.1) (Nat.le_of_ble_eq_true rfl) (Nat.zero_le _) (Nat.zero_le _) (uX9_sumOf (N := N) (K := K) (Mo.sm j6 s0) H (fun v2 M7 jj H => ?_))
    have j7 : Sm M M7 := Sm.tr j6 jj
    show Go X (d + K + 7) mc ms kX9_goesAlong Q 68 [(0, .ref a0), (1, .int (x1)), (2, .int (x2))] [.long (v2), .int (0), .ref (a0 + 22)] M7 0 0
    refine h_lastore 69 0 dX9_goesAlong_68 rfl rfl (Sm.k j7 s0.2.2.2.2.2.2.2.2.2.2.2.2.2.2.2.2.2.2.2.2.2.2.2.2.2.2.2.2.2.2.2.2.2.2.2.2.2.2.2.2.2.2.2.2.1) (vp_lit rfl) ?_
    generalize hM8 : (g_wl M7 (a0 + 22) 0 v2) = M8
    have j8 : Sl M M8 := by rw [← hM8]; exact (Sl.wl (Sm.l j7))
    replace H := H M8 hM8.symm
    exact g_sub [0, 2] _ rfl (uxX9_goesAlong_69 (N := N) (K := K) (Mo.sl j8 s0) H (fun M1 j r => hR M1 (Sl.tr j8 j) r))
  · skip
    replace H := H.2 c1
    refine g_lconst (0) 60 dX9_goesAlong_59 rfl rfl ?_
    refine g_goto 68 dX9_goesAlong_60 rfl ?_
    refine h_lastore 69 0 dX9_goesAlong_68 rfl rfl (Sm.k j6 s0.2.2.2.2.2.2.2.2.2.2.2.2.2.2.2.2.2.2.2.2.2.2.2.2.2.2.2.2.2.2.2.2.2.2.2.2.2.2.2.2.2.2.2.2.1) (vp_lit rfl) ?_
    generalize hM9 : (g_wl M6 (a0 + 22) 0 0) = M9
    have j9 : Sl M M9 := by rw [← hM9]; exact (Sl.wl (Sm.l j6))
    replace H := H M9 hM9.symm
    exact g_sub [0, 2] _ rfl (uxX9_goesAlong_69 (N := N) (K := K) (Mo.sl j9 s0) H (fun M1 j r => hR M1 (Sl.tr j9 j) r))
/-! X9_obeys -/
def pX9_obeys (N K : Nat) (M : gM) (a0 : Nat) (R : Int32 → gM → Prop) : Prop := ∀ v1 : Int32, v1 = (fX9_small (g_ml M (a0 + 22) 0)) → (((g_mi M a0 43) = 10 → pX9_seedKept N K M a0 v1 (fun v2 M1 => R v2 M1)) ∧ (¬ (g_mi M a0 43) = 10 → (((g_mi M a0 43) = 18 → pX9_addsKept N K M a0 v1 (fun v3 M2 => R v3 M2)) ∧ (¬ (g_mi M a0 43) = 18 → (((g_mi M a0 43) = 19 → pX9_takesKept N K M a0 v1 (fun v4 M3 => R v4 M3)) ∧ (¬ (g_mi M a0 43) = 19 → (((g_mi M a0 43) = 20 → pX9_sideKept N K M a0 v1 (fun v5 M4 => R v5 M4)) ∧ (¬ (g_mi M a0 43) = 20 → pX9_buildsKept N K M a0 (fun v6 M5 => ((0 ≤ v6 → ∀ M6 : gM, M6 = (g_wi M5 a0 28 v6) → R v6 M6) ∧ (¬ 0 ≤ v6 → ∀ M7 : gM, M7 = (g_wi M5 a0 28 (g_mi M5 a0 28)) → R v6 M7)))))))))))
set_option maxRecDepth 10000 in
theorem uX9_obeys {N K : Nat} {X : gX} {d mc ms : Nat} {Q : Option Value → gM → Prop} {M : gM} {a0 : Nat} {R : Int32 → gM → Prop} (s0 : Mo M a0) (H : pX9_obeys N K M a0 R) (hR : ∀ (v : Int32) (M1 : gM), Sm M M1 → R v M1 → Q (some (.int v)) M1) : Cn X (d + K + 12) mc ms kX9_obeys [.ref a0] M Q := by
  unfold pX9_obeys at H
  refine g_meth rfl rfl (Nat.le_of_ble_eq_true rfl) rfl ?_
  refine g_aload_n 0 1 dX9_obeys_0 rfl rfl ?_
  refine g_getR 4 (a0 + 22) dX9_obeys_1 rfl flX9_97 s0.1 s0.2.2.2.2.2.2.2.2.2.2.2.2.2.2.2.2.2.2.2.2.2.2.2.2.2.2.2.2.2.2.2.2.2.2.2.2.2.2.2.2.2.2.2.1 ?_
  refine g_iconst (0) 5 dX9_obeys_4 rfl rfl ?_
  refine h_laload 6 0 dX9_obeys_5 rfl rfl s0.2.2.2.2.2.2.2.2.2.2.2.2.2.2.2.2.2.2.2.2.2.2.2.2.2.2.2.2.2.2.2.2.2.2.2.2.2.2.2.2.2.2.2.2.1 (vp_lit rfl) ?_
  refine g_callS (mc1 := 0) (ms1 := 0) (rest := []) (av := [.long ((g_ml M (a0 + 22) 0))]) kX9_small 9 dX9_obeys_6 rfl rfl mbX9_463 smX9_small (Nat.le_of_ble_eq_true rfl) (Nat.zero_le _) (Nat.zero_le _) (tX9_small  ?_)
  show Go X (d + K + 12) mc ms kX9_obeys Q 9 [(0, .ref a0)] [.int ((fX9_small (g_ml M (a0 + 22) 0)))] M 0 0
  generalize hv1 : (fX9_small (g_ml M (a0 + 22) 0)) = v1
  replace H := H v1 hv1.symm
  refine g_istore_n 10 [(1, .int (v1)), (0, .ref a0)] dX9_obeys_9 rfl (Nat.le_of_ble_eq_true rfl) rfl ?_
  refine g_aload_n 1 11 dX9_obeys_10 rfl rfl ?_
  refine g_getI 14 dX9_obeys_11 rfl flX9_449 s0.1 ?_
  by_cases c1 : (g_mi M a0 43) = 10
  · refine h_lookIn (10) 74 dX9_obeys_14 (by decide) c1 rfl rfl ?_
    replace H := H.1 c1
    refine g_aload_n 1 75 dX9_obeys_74 rfl rfl ?_
    refine g_iload_n 0 76 dX9_obeys_75 rfl rfl ?_
    refine g_callV (mc1 := 0) (ms1 := 0) (b := a0) (rest := []) (av := [.int (v1)]) kX9_seedKept 79 dX9_obeys_76 rfl rfl mbX9_395 imX9_seedKept seX9_seedKept gcl9.1 s0.1 (Nat.le_of_ble_eq_true rfl) (Nat.zero_le _) (Nat.zero_le _) (uX9_seedKept (N := N) (K := K) s0 H (fun v2 M1 jj H => ?_))
    have j1 : Sm M M1 := jj
    show Go X (d + K + 12) mc ms kX9_obeys Q 79 [(1, .int (v1)), (0, .ref a0)] [.int (v2)] M1 0 0
    exact g_iret dX9_obeys_79 rfl (Nat.zero_le _) (Nat.zero_le _) (hR _ _ j1 H)
  replace H := H.2 c1
  by_cases c2 : (g_mi M a0 43) = 18
  · refine h_lookIn (18) 56 dX9_obeys_14 (by decide) c2 rfl rfl ?_
    replace H := H.1 c2
    refine g_aload_n 1 57 dX9_obeys_56 rfl rfl ?_
    refine g_iload_n 0 58 dX9_obeys_57 rfl rfl ?_
    refine g_callV (mc1 := 0) (ms1 := 0) (b := a0) (rest := []) (av := [.int (v1)]) kX9_addsKept 61 dX9_obeys_58 rfl rfl mbX9_383 imX9_addsKept seX9_addsKept gcl9.1 s0.1 (Nat.le_of_ble_eq_true rfl) (Nat.zero_le _) (Nat.zero_le _) (Cn.cd (show d + 1 + K + 10 = d + K + 11 by omega) (uX9_addsKept (d := d + 1) (N := N) (K := K) s0 H (fun v3 M2 jj H => ?_)))
    have j2 : Sm M M2 := jj
    show Go X (d + K + 12) mc ms kX9_obeys Q 61 [(1, .int (v1)), (0, .ref a0)] [.int (v3)] M2 0 0
    exact g_iret dX9_obeys_61 rfl (Nat.zero_le _) (Nat.zero_le _) (hR _ _ j2 H)
  replace H := H.2 c2
  by_cases c3 : (g_mi M a0 43) = 19
  · refine h_lookIn (19) 62 dX9_obeys_14 (by decide) c3 rfl rfl ?_
    replace H := H.1 c3
    refine g_aload_n 1 63 dX9_obeys_62 rfl rfl ?_
    refine g_iload_n 0 64 dX9_obeys_63 rfl rfl ?_
    refine g_callV (mc1 := 0) (ms1 := 0) (b := a0) (rest := []) (av := [.int (v1)]) kX9_takesKept 67 dX9_obeys_64 rfl rfl mbX9_389 imX9_takesKept seX9_takesKept gcl9.1 s0.1 (Nat.le_of_ble_eq_true rfl) (Nat.zero_le _) (Nat.zero_le _) (uX9_takesKept (N := N) (K := K) s0 H (fun v4 M3 jj H => ?_))
    have j3 : Sm M M3 := jj
    show Go X (d + K + 12) mc ms kX9_obeys Q 67 [(1, .int (v1)), (0, .ref a0)] [.int (v4)] M3 0 0
    exact g_iret dX9_obeys_67 rfl (Nat.zero_le _) (Nat.zero_le _) (hR _ _ j3 H)
  replace H := H.2 c3
  by_cases c4 : (g_mi M a0 43) = 20
  · refine h_lookIn (20) 68 dX9_obeys_14 (by decide) c4 rfl rfl ?_
    replace H := H.1 c4
    refine g_aload_n 1 69 dX9_obeys_68 rfl rfl ?_
    refine g_iload_n 0 70 dX9_obeys_69 rfl rfl ?_
    refine g_callV (mc1 := 0) (ms1 := 0) (b := a0) (rest := []) (av := [.int (v1)]) kX9_sideKept 73 dX9_obeys_70 rfl rfl mbX9_392 imX9_sideKept seX9_sideKept gcl9.1 s0.1 (Nat.le_of_ble_eq_true rfl) (Nat.zero_le _) (Nat.zero_le _) (uX9_sideKept (N := N) (K := K) s0 H (fun v5 M4 jj H => ?_))
    have j4 : Sm M M4 := jj
    show Go X (d + K + 12) mc ms kX9_obeys Q 73 [(1, .int (v1)), (0, .ref a0)] [.int (v5)] M4 0 0
    exact g_iret dX9_obeys_73 rfl (Nat.zero_le _) (Nat.zero_le _) (hR _ _ j4 H)
  replace H := H.2 c4
  have tc1 := i_neT c1
  rw [show ((10 : Int32)).toInt = 10 from rfl] at tc1
  have tc2 := i_neT c2
  rw [show ((18 : Int32)).toInt = 18 from rfl] at tc2
  have tc3 := i_neT c3
  rw [show ((19 : Int32)).toInt = 19 from rfl] at tc3
  have tc4 := i_neT c4
  rw [show ((20 : Int32)).toInt = 20 from rfl] at tc4
  refine g_lookup (off := 66) 80 dX9_obeys_14 (by decide) (by simp [Op.lookupswitch.offset, tc1, tc2, tc3, tc4, Ne.symm tc1, Ne.symm tc2, Ne.symm tc3, Ne.symm tc4]) rfl ?_
  refine g_aload_n 1 81 dX9_obeys_80 rfl rfl ?_
  refine g_callV (mc1 := 0) (ms1 := 0) (b := a0) (rest := []) (av := []) kX9_buildsKept 84 dX9_obeys_81 rfl rfl mbX9_398 imX9_buildsKept seX9_buildsKept gcl9.1 s0.1 (Nat.le_of_ble_eq_true rfl) (Nat.zero_le _) (Nat.zero_le _) (uX9_buildsKept (N := N) (K := K) s0 H (fun v6 M5 jj H => ?_))
  have j5 : Sm M M5 := jj
  show Go X (d + K + 12) mc ms kX9_obeys Q 84 [(1, .int (v1)), (0, .ref a0)] [.int (v6)] M5 0 0
  refine g_istore_n 85 [(2, .int (v6)), (1, .int (v1)), (0, .ref a0)] dX9_obeys_84 rfl (Nat.le_of_ble_eq_true rfl) rfl ?_
  refine g_aload_n 2 86 dX9_obeys_85 rfl rfl ?_
  refine g_iload_n 0 87 dX9_obeys_86 rfl rfl ?_
  refine g_if_ge 97 90 dX9_obeys_87 rfl rfl (fun c5 => ?_) (fun c5 => ?_)
  · skip
    replace H := H.1 c5
    refine g_iload_n 0 98 dX9_obeys_97 rfl rfl ?_
    refine g_putI 101 dX9_obeys_98 rfl flX9_308 (Sm.k j5 s0.1) ?_
    generalize hM6 : (g_wi M5 a0 28 v6) = M6
    have j6 : Sm M M6 := by rw [← hM6]; exact (Sm.wi j5)
    replace H := H M6 hM6.symm
    refine g_iload_n 0 102 dX9_obeys_101 rfl rfl ?_
    exact g_iret dX9_obeys_102 rfl (Nat.zero_le _) (Nat.zero_le _) (hR _ _ j6 H)
  · skip
    replace H := H.2 c5
    refine g_aload_n 2 91 dX9_obeys_90 rfl rfl ?_
    refine g_getI 94 dX9_obeys_91 rfl flX9_308 (Sm.k j5 s0.1) ?_
    refine g_goto 98 dX9_obeys_94 rfl ?_
    refine g_putI 101 dX9_obeys_98 rfl flX9_308 (Sm.k j5 s0.1) ?_
    generalize hM7 : (g_wi M5 a0 28 (g_mi M5 a0 28)) = M7
    have j7 : Sm M M7 := by rw [← hM7]; exact (Sm.wi j5)
    replace H := H M7 hM7.symm
    refine g_iload_n 0 102 dX9_obeys_101 rfl rfl ?_
    exact g_iret dX9_obeys_102 rfl (Nat.zero_le _) (Nat.zero_le _) (hR _ _ j7 H)
/-! X9_runs -/
def pX9_runs_0 (N K : Nat) (kp : Nat → gM → Nat → Int32 → Int32 → Int32 → Int32 → Prop) (R : Int32 → gM → Prop) (M : gM) (a0 : Nat) (x1 : Int32) : Prop := pX9_goesAlong N K M a0 x1 0 (fun M1 => kp 0 M1 a0 x1 (g_mi M1 a0 42) (g_mi M1 a0 22) 0)
def pX9_runs_19 (N K : Nat) (kp : Nat → gM → Nat → Int32 → Int32 → Int32 → Int32 → Prop) (R : Int32 → gM → Prop) (M : gM) (a0 : Nat) (x1 : Int32) (x2 : Int32) (x3 : Int32) (x4 : Int32) : Prop := ((x2 ≤ x4 → ∀ M1 : gM, M1 = (g_wi M a0 41 x3) → R 1 M1) ∧ (¬ x2 ≤ x4 → pX9_goesAlong N K M a0 x1 1 (fun M2 => ((¬ (g_mi M2 a0 45) = 0 → (((g_mi M2 a0 44) = 0 → R 0 M2) ∧ (¬ (g_mi M2 a0 44) = 0 → pX9_obeys N K M2 a0 (fun v1 M3 => ((0 ≤ v1 → ∀ M4 : gM, M4 = (g_wi M3 a0 27 ((g_mi M3 a0 27) + 1)) → kp 0 M4 a0 x1 x2 x3 (x4 + 1)) ∧ (¬ 0 ≤ v1 → R 0 M3)))))) ∧ ((g_mi M2 a0 45) = 0 → kp 0 M2 a0 x1 x2 x3 (x4 + 1))))))
def qX9_runs (N K : Nat) (R : Int32 → gM → Prop) : Nat → Nat → gM → Nat → Int32 → Int32 → Int32 → Int32 → Prop
  | 0, _, _, _, _, _, _, _ => False
  | n + 1, _, M, a0, x1, x2, x3, x4 => pX9_runs_19 N K (qX9_runs N K R n) R M a0 x1 x2 x3 x4
def pX9_runs (N K : Nat) (M : gM) (a0 : Nat) (x1 : Int32) (R : Int32 → gM → Prop) : Prop := pX9_runs_0 N K (qX9_runs N K R N) R M a0 x1
def ULX9_runs (X : gX) (d mc ms : Nat) (Q : Option Value → gM → Prop) (N K : Nat) (R : Int32 → gM → Prop) (n : Nat) : Prop := (∀ (M : gM) (a0 : Nat) (x1 : Int32) (x2 : Int32) (x3 : Int32) (x4 : Int32), Mo M a0 → qX9_runs N K R n 0 M a0 x1 x2 x3 x4 → (∀ (v : Int32) (M1 : gM), Sl M M1 → R v M1 → Q (some (.int v)) M1) → Go X (d + K + 13) mc ms kX9_runs Q 19 [(0, .ref a0), (1, .int (x1)), (2, .int (x2)), (3, .int (x3)), (4, .int (x4))] [] M 0 0)
set_option maxRecDepth 10000 in
theorem ulX9_runs {X : gX} {d mc ms : Nat} {Q : Option Value → gM → Prop} {N K : Nat} {R : Int32 → gM → Prop} : ∀ n : Nat, ULX9_runs X d mc ms Q N K R n := by
  intro n
  induction n with
  | zero => exact fun _ _ _ _ _ _ _ h _ => h.elim
  | succ n ih =>
    intro M a0 x1 x2 x3 x4 s0 H hR
    rw [qX9_runs] at H
    unfold pX9_runs_19 at H
    refine g_iload 4 21 dX9_runs_19 rfl rfl ?_
    refine g_iload_n 2 22 dX9_runs_21 rfl rfl ?_
    refine g_icmp_ge 73 25 dX9_runs_22 rfl rfl (fun c1 => ?_) (fun c1 => ?_)
    · skip
      replace H := H.1 c1
      refine g_aload_n 0 74 dX9_runs_73 rfl rfl ?_
      refine g_iload_n 3 75 dX9_runs_74 rfl rfl ?_
      refine g_putI 78 dX9_runs_75 rfl flX9_440 s0.1 ?_
      generalize hM1 : (g_wi M a0 41 x3) = M1
      have j1 : Sm M M1 := by rw [← hM1]; exact (Sm.wi Sm.rf)
      replace H := H M1 hM1.symm
      refine g_iconst (1) 79 dX9_runs_78 rfl rfl ?_
      exact g_zret dX9_runs_79 rfl (by decide) (Nat.zero_le _) (Nat.zero_le _) (hR _ _ (Sm.l j1) H)
    · skip
      replace H := H.2 c1
      refine g_aload_n 0 26 dX9_runs_25 rfl rfl ?_
      refine g_iload_n 1 27 dX9_runs_26 rfl rfl ?_
      refine g_iconst (1) 28 dX9_runs_27 rfl rfl ?_
      refine g_callV (mc1 := 0) (ms1 := 0) (b := a0) (rest := []) (av := [.int (x1), .int (1)]) kX9_goesAlong 31 dX9_runs_28 rfl rfl mbX9_467 imX9_goesAlong seX9_goesAlong gcl9.1 s0.1 (Nat.le_of_ble_eq_true rfl) (Nat.zero_le _) (Nat.zero_le _) (Cn.cd (show d + 5 + K + 7 = d + K + 12 by omega) (uX9_goesAlong (d := d + 5) (N := N) (K := K) s0 H (fun M2 jj H => ?_)))
      have j2 : Sl M M2 := jj
      show Go X (d + K + 13) mc ms kX9_runs Q 31 [(0, .ref a0), (1, .int (x1)), (2, .int (x2)), (3, .int (x3)), (4, .int (x4))] [] M2 0 0
      refine g_aload_n 0 32 dX9_runs_31 rfl rfl ?_
      refine g_getI 35 dX9_runs_32 rfl flX9_458 (Sl.k j2 s0.1) ?_
      refine g_if_ne 41 38 dX9_runs_35 rfl rfl (fun c2 => ?_) (fun c2 => ?_)
      · skip
        replace H := H.1 c2
        refine g_aload_n 0 42 dX9_runs_41 rfl rfl ?_
        refine g_getI 45 dX9_runs_42 rfl flX9_452 (Sl.k j2 s0.1) ?_
        refine g_if_eq 55 48 dX9_runs_45 rfl rfl (fun c3 => ?_) (fun c3 => ?_)
        · skip
          replace H := H.1 c3
          refine g_iconst (0) 56 dX9_runs_55 rfl rfl ?_
          exact g_zret dX9_runs_56 rfl (by decide) (Nat.zero_le _) (Nat.zero_le _) (hR _ _ j2 H)
        · skip
          replace H := H.2 c3
          refine g_aload_n 0 49 dX9_runs_48 rfl rfl ?_
          refine g_callV (mc1 := 0) (ms1 := 0) (b := a0) (rest := []) (av := []) kX9_obeys 52 dX9_runs_49 rfl rfl mbX9_471 imX9_obeys seX9_obeys gcl9.1 (Sl.k j2 s0.1) (Nat.le_of_ble_eq_true rfl) (Nat.zero_le _) (Nat.zero_le _) (uX9_obeys (N := N) (K := K) (Mo.sl j2 s0) H (fun v1 M3 jj H => ?_))
          have j3 : Sl M M3 := Sl.tr j2 (Sm.l jj)
          show Go X (d + K + 13) mc ms kX9_runs Q 52 [(0, .ref a0), (1, .int (x1)), (2, .int (x2)), (3, .int (x3)), (4, .int (x4))] [.int (v1)] M3 0 0
          refine g_if_ge 57 55 dX9_runs_52 rfl rfl (fun c4 => ?_) (fun c4 => ?_)
          · skip
            replace H := H.1 c4
            refine g_aload_n 0 58 dX9_runs_57 rfl rfl ?_
            refine g_dup 59 dX9_runs_58 rfl rfl ?_
            refine g_getI 62 dX9_runs_59 rfl flX9_305 (Sl.k j3 s0.1) ?_
            refine g_iconst (1) 63 dX9_runs_62 rfl rfl ?_
            refine g_iadd 64 dX9_runs_63 rfl ?_
            refine g_putI 67 dX9_runs_64 rfl flX9_305 (Sl.k j3 s0.1) ?_
            generalize hM4 : (g_wi M3 a0 27 ((g_mi M3 a0 27) + 1)) = M4
            have j4 : Sl M M4 := by rw [← hM4]; exact (Sl.wi j3)
            replace H := H M4 hM4.symm
            refine g_iinc _ 4 70 [(4, .int ((x4 + 1))), (0, .ref a0), (1, .int (x1)), (2, .int (x2)), (3, .int (x3))] dX9_runs_67 rfl rfl rfl (Nat.le_of_ble_eq_true rfl) rfl ?_
            refine g_goto 19 dX9_runs_70 rfl ?_
            exact g_sub [1, 2, 3, 4, 0] _ rfl (ih M4 a0 x1 x2 x3 (x4 + 1) (Mo.sl j4 s0) H (fun v M1 j r => hR v M1 (Sl.tr j4 j) r))
          · skip
            replace H := H.2 c4
            refine g_iconst (0) 56 dX9_runs_55 rfl rfl ?_
            exact g_zret dX9_runs_56 rfl (by decide) (Nat.zero_le _) (Nat.zero_le _) (hR _ _ j3 H)
      · skip
        replace H := H.2 c2
        refine g_goto 67 dX9_runs_38 rfl ?_
        refine g_iinc _ 4 70 [(4, .int ((x4 + 1))), (0, .ref a0), (1, .int (x1)), (2, .int (x2)), (3, .int (x3))] dX9_runs_67 rfl rfl rfl (Nat.le_of_ble_eq_true rfl) rfl ?_
        refine g_goto 19 dX9_runs_70 rfl ?_
        exact g_sub [1, 2, 3, 4, 0] _ rfl (ih M2 a0 x1 x2 x3 (x4 + 1) (Mo.sl j2 s0) H (fun v M1 j r => hR v M1 (Sl.tr j2 j) r))
set_option maxRecDepth 10000 in
theorem uX9_runs {N K : Nat} {X : gX} {d mc ms : Nat} {Q : Option Value → gM → Prop} {M : gM} {a0 : Nat} {x1 : Int32} {R : Int32 → gM → Prop} (s0 : Mo M a0) (H : pX9_runs N K M a0 x1 R) (hR : ∀ (v : Int32) (M1 : gM), Sl M M1 → R v M1 → Q (some (.int v)) M1) : Cn X (d + K + 13) mc ms kX9_runs [.ref a0, .int (x1)] M Q := by
  have ih := ulX9_runs (X := X) (d := d) (mc := mc) (ms := ms) (Q := Q) (N := N) (K := K) (R := R) N
  unfold pX9_runs pX9_runs_0 at H
  refine g_meth rfl rfl (Nat.le_of_ble_eq_true rfl) rfl ?_
  refine g_aload_n 0 1 dX9_runs_0 rfl rfl ?_
  refine g_iload_n 1 2 dX9_runs_1 rfl rfl ?_
  refine g_iconst (0) 3 dX9_runs_2 rfl rfl ?_
  refine g_callV (mc1 := 0) (ms1 := 0) (b := a0) (rest := []) (av := [.int (x1), .int (0)]) kX9_goesAlong 6 dX9_runs_3 rfl rfl mbX9_467 imX9_goesAlong seX9_goesAlong gcl9.1 s0.1 (Nat.le_of_ble_eq_true rfl) (Nat.zero_le _) (Nat.zero_le _) (Cn.cd (show d + 5 + K + 7 = d + K + 12 by omega) (uX9_goesAlong (d := d + 5) (N := N) (K := K) s0 H (fun M1 jj H => ?_)))
  have j1 : Sl M M1 := jj
  show Go X (d + K + 13) mc ms kX9_runs Q 6 [(0, .ref a0), (1, .int (x1))] [] M1 0 0
  refine g_aload_n 0 7 dX9_runs_6 rfl rfl ?_
  refine g_getI 10 dX9_runs_7 rfl flX9_455 (Sl.k j1 s0.1) ?_
  refine g_istore_n 11 [(2, .int ((g_mi M1 a0 42))), (0, .ref a0), (1, .int (x1))] dX9_runs_10 rfl (Nat.le_of_ble_eq_true rfl) rfl ?_
  refine g_aload_n 1 12 dX9_runs_11 rfl rfl ?_
  refine g_getI 15 dX9_runs_12 rfl flX9_269 (Sl.k j1 s0.1) ?_
  refine g_istore_n 16 [(3, .int ((g_mi M1 a0 22))), (2, .int ((g_mi M1 a0 42))), (0, .ref a0), (1, .int (x1))] dX9_runs_15 rfl (Nat.le_of_ble_eq_true rfl) rfl ?_
  refine g_iconst (0) 17 dX9_runs_16 rfl rfl ?_
  refine g_istore 19 [(4, .int (0)), (3, .int ((g_mi M1 a0 22))), (2, .int ((g_mi M1 a0 42))), (0, .ref a0), (1, .int (x1))] dX9_runs_17 rfl (Nat.le_of_ble_eq_true rfl) rfl ?_
  exact g_sub [3, 4, 2, 1, 0] _ rfl (ih M1 a0 x1 (g_mi M1 a0 42) (g_mi M1 a0 22) 0 (Mo.sl j1 s0) H (fun v M1 j r => hR v M1 (Sl.tr j1 j) r))
/-! X9_drawnAct -/
def pX9_drawnAct (N K : Nat) (M : gM) (a0 : Nat) (R : gM → Prop) : Prop := pX9_draws N K M a0 40 (fun v1 M1 => pX9_draws N K M1 a0 8 (fun v2 M2 => ((v2 = 5 → (EX9_takesKey N M2 a0 v1) ∧ ∀ v3 : Int32, v3 = (fX9_takesKey N M2 a0 v1) → ∀ M3 : gM, M3 = (mX9_takesKey N M2 a0 v1) → R M3) ∧ (¬ v2 = 5 → ((v2 = 6 → pX9_builds N K M2 a0 (fun v4 M4 => R M4)) ∧ (¬ v2 = 6 → ((v2 = 7 → pX9_builds N K M2 a0 (fun v5 M5 => R M5)) ∧ (¬ v2 = 7 → pX9_adds N K M2 a0 v1 (fun v6 M6 => R M6)))))))))
set_option maxRecDepth 10000 in
theorem uX9_drawnAct {N K : Nat} {X : gX} {d mc ms : Nat} {Q : Option Value → gM → Prop} {M : gM} {a0 : Nat} {R : gM → Prop} (s0 : Mo M a0) (H : pX9_drawnAct N K M a0 R) (hR : ∀ (M1 : gM), Sm M M1 → R M1 → Q none M1) : Cn X (d + K + 11) mc ms kX9_drawnAct [.ref a0] M Q := by
  unfold pX9_drawnAct at H
  refine g_meth rfl rfl (Nat.le_of_ble_eq_true rfl) rfl ?_
  refine g_aload_n 0 1 dX9_drawnAct_0 rfl rfl ?_
  refine g_bipush (40) 3 dX9_drawnAct_1 rfl rfl ?_
  refine g_callV (mc1 := 0) (ms1 := 0) (b := a0) (rest := []) (av := [.int (40)]) kX9_draws 6 dX9_drawnAct_3 rfl rfl mbX9_483 imX9_draws seX9_draws gcl9.1 s0.1 (Nat.le_of_ble_eq_true rfl) (Nat.zero_le _) (Nat.zero_le _) (uX9_draws (N := N) (K := K) s0 H (fun v1 M1 jj H => ?_))
  have j1 : Sm M M1 := jj
  show Go X (d + K + 11) mc ms kX9_drawnAct Q 6 [(0, .ref a0)] [.int (v1)] M1 0 0
  refine g_istore_n 7 [(1, .int (v1)), (0, .ref a0)] dX9_drawnAct_6 rfl (Nat.le_of_ble_eq_true rfl) rfl ?_
  refine g_aload_n 1 8 dX9_drawnAct_7 rfl rfl ?_
  refine g_bipush (8) 10 dX9_drawnAct_8 rfl rfl ?_
  refine g_callV (mc1 := 0) (ms1 := 0) (b := a0) (rest := []) (av := [.int (8)]) kX9_draws 13 dX9_drawnAct_10 rfl rfl mbX9_483 imX9_draws seX9_draws gcl9.1 (Sm.k j1 s0.1) (Nat.le_of_ble_eq_true rfl) (Nat.zero_le _) (Nat.zero_le _) (uX9_draws (N := N) (K := K) (Mo.sm j1 s0) H (fun v2 M2 jj H => ?_))
  have j2 : Sm M M2 := Sm.tr j1 jj
  show Go X (d + K + 11) mc ms kX9_drawnAct Q 13 [(1, .int (v1)), (0, .ref a0)] [.int (v2)] M2 0 0
  refine g_istore_n 14 [(2, .int (v2)), (1, .int (v1)), (0, .ref a0)] dX9_drawnAct_13 rfl (Nat.le_of_ble_eq_true rfl) rfl ?_
  refine g_iload_n 0 15 dX9_drawnAct_14 rfl rfl ?_
  by_cases c1 : v2 = 5
  · refine h_tabIn (5) 40 dX9_drawnAct_15 c1 (by decide) (by decide) rfl rfl ?_
    replace H := H.1 c1
    refine g_aload_n 2 41 dX9_drawnAct_40 rfl rfl ?_
    refine g_iload_n 1 42 dX9_drawnAct_41 rfl rfl ?_
    obtain ⟨b1, H⟩ := H
    refine g_callV (mc1 := 0) (ms1 := 0) (b := a0) (rest := []) (av := [.int (v1)]) kX9_takesKey 45 dX9_drawnAct_42 rfl rfl mbX9_371 imX9_takesKey seX9_takesKey gcl9.1 (Sm.k j2 s0.1) (Nat.le_of_ble_eq_true rfl) (Nat.zero_le _) (Nat.zero_le _) (tX9_takesKey (N := N) (Mo.sm j2 s0) b1 ?_)
    show Go X (d + K + 11) mc ms kX9_drawnAct Q 45 [(2, .int (v2)), (1, .int (v1)), (0, .ref a0)] [.int ((fX9_takesKey N M2 a0 v1))] (mX9_takesKey N M2 a0 v1) 0 0
    generalize hv3 : (fX9_takesKey N M2 a0 v1) = v3
    replace H := H v3 hv3.symm
    generalize hM3 : (mX9_takesKey N M2 a0 v1) = M3
    have j3 : Sm M M3 := by rw [← hM3]; exact (Sm.tr j2 jX9_takesKey)
    replace H := H M3 hM3.symm
    refine g_pop 46 dX9_drawnAct_45 rfl rfl ?_
    refine g_goto 63 dX9_drawnAct_46 rfl ?_
    exact g_vret dX9_drawnAct_63 rfl (Nat.zero_le _) (Nat.zero_le _) (hR _ j3 H)
  replace H := H.2 c1
  by_cases c2 : v2 = 6
  · refine h_tabIn (6) 49 dX9_drawnAct_15 c2 (by decide) (by decide) rfl rfl ?_
    replace H := H.1 c2
    refine g_aload_n 2 50 dX9_drawnAct_49 rfl rfl ?_
    refine g_callV (mc1 := 0) (ms1 := 0) (b := a0) (rest := []) (av := []) kX9_builds 53 dX9_drawnAct_50 rfl rfl mbX9_380 imX9_builds seX9_builds gcl9.1 (Sm.k j2 s0.1) (Nat.le_of_ble_eq_true rfl) (Nat.zero_le _) (Nat.zero_le _) (uX9_builds (N := N) (K := K) (Mo.sm j2 s0) H (fun v4 M4 jj H => ?_))
    have j4 : Sm M M4 := Sm.tr j2 jj
    show Go X (d + K + 11) mc ms kX9_drawnAct Q 53 [(2, .int (v2)), (1, .int (v1)), (0, .ref a0)] [.int (v4)] M4 0 0
    refine g_pop 54 dX9_drawnAct_53 rfl rfl ?_
    refine g_goto 63 dX9_drawnAct_54 rfl ?_
    exact g_vret dX9_drawnAct_63 rfl (Nat.zero_le _) (Nat.zero_le _) (hR _ j4 H)
  replace H := H.2 c2
  by_cases c3 : v2 = 7
  · refine h_tabIn (7) 49 dX9_drawnAct_15 c3 (by decide) (by decide) rfl rfl ?_
    replace H := H.1 c3
    refine g_aload_n 2 50 dX9_drawnAct_49 rfl rfl ?_
    refine g_callV (mc1 := 0) (ms1 := 0) (b := a0) (rest := []) (av := []) kX9_builds 53 dX9_drawnAct_50 rfl rfl mbX9_380 imX9_builds seX9_builds gcl9.1 (Sm.k j2 s0.1) (Nat.le_of_ble_eq_true rfl) (Nat.zero_le _) (Nat.zero_le _) (uX9_builds (N := N) (K := K) (Mo.sm j2 s0) H (fun v5 M5 jj H => ?_))
    have j5 : Sm M M5 := Sm.tr j2 jj
    show Go X (d + K + 11) mc ms kX9_drawnAct Q 53 [(2, .int (v2)), (1, .int (v1)), (0, .ref a0)] [.int (v5)] M5 0 0
    refine g_pop 54 dX9_drawnAct_53 rfl rfl ?_
    refine g_goto 63 dX9_drawnAct_54 rfl ?_
    exact g_vret dX9_drawnAct_63 rfl (Nat.zero_le _) (Nat.zero_le _) (hR _ j5 H)
  replace H := H.2 c3
  have tc1 := i_neT c1
  rw [show ((5 : Int32)).toInt = 5 from rfl] at tc1
  have tc2 := i_neT c2
  rw [show ((6 : Int32)).toInt = 6 from rfl] at tc2
  have tc3 := i_neT c3
  rw [show ((7 : Int32)).toInt = 7 from rfl] at tc3
  refine g_tableOut 57 dX9_drawnAct_15 (by omega) rfl ?_
  refine g_aload_n 2 58 dX9_drawnAct_57 rfl rfl ?_
  refine g_iload_n 1 59 dX9_drawnAct_58 rfl rfl ?_
  refine g_callV (mc1 := 0) (ms1 := 0) (b := a0) (rest := []) (av := [.int (v1)]) kX9_adds 62 dX9_drawnAct_59 rfl rfl mbX9_163 imX9_adds seX9_adds gcl9.1 (Sm.k j2 s0.1) (Nat.le_of_ble_eq_true rfl) (Nat.zero_le _) (Nat.zero_le _) (Cn.cd (show d + 1 + K + 9 = d + K + 10 by omega) (uX9_adds (d := d + 1) (N := N) (K := K) (Mo.sm j2 s0) H (fun v6 M6 jj H => ?_)))
  have j6 : Sm M M6 := Sm.tr j2 jj
  show Go X (d + K + 11) mc ms kX9_drawnAct Q 62 [(2, .int (v2)), (1, .int (v1)), (0, .ref a0)] [.int (v6)] M6 0 0
  refine g_pop 63 dX9_drawnAct_62 rfl rfl ?_
  exact g_vret dX9_drawnAct_63 rfl (Nat.zero_le _) (Nat.zero_le _) (hR _ j6 H)
/-! X9_years -/
def pX9_years_0 (N K : Nat) (kp : Nat → gM → Nat → Int32 → Int32 → Int32 → Prop) (R : Int32 → gM → Prop) (M : gM) (a0 : Nat) (x1 : Int32) (x2 : Int32) : Prop := ∀ v1 : Int32, v1 = (fX9_lies x1 0 1000000) → ((v1 = 0 → pX9_refuses N K M a0 (-1) (fun v2 M1 => R v2 M1)) ∧ (¬ v1 = 0 → ∀ v3 : Int32, v3 = (fX9_lies x2 1 60) → ((¬ v3 = 0 → ∀ M2 : gM, M2 = (g_wi M a0 49 x1) → ∀ M3 : gM, M3 = (g_wi M2 a0 48 1) → pX9_laysAside N K M3 a0 0 (fun M4 => kp 0 M4 a0 x2 0 0)) ∧ (v3 = 0 → pX9_refuses N K M a0 (-1) (fun v4 M5 => R v4 M5)))))
def pX9_years_43 (N K : Nat) (kp : Nat → gM → Nat → Int32 → Int32 → Int32 → Prop) (R : Int32 → gM → Prop) (M : gM) (a0 : Nat) (x2 : Int32) (x3 : Int32) : Prop := ((x2 ≤ x3 → kp 1 M a0 0 (g_mi M (a0 + 2) 0) 0) ∧ (¬ x2 ≤ x3 → pX9_drawnAct N K M a0 (fun M1 => kp 0 M1 a0 x2 (x3 + 1) 0)))
def pX9_years_68 (N K : Nat) (kp : Nat → gM → Nat → Int32 → Int32 → Int32 → Prop) (R : Int32 → gM → Prop) (M : gM) (a0 : Nat) (x3 : Int32) (x4 : Int32) : Prop := ((40 ≤ x4 → pX9_takesBack N K M a0 0 (fun M1 => pX9_good0 N K M1 a0 x3 (fun v1 M2 => R v1 M2))) ∧ (¬ 40 ≤ x4 → pX9_found N K M a0 x4 1 (fun v2 => (vp_in (x4) 40) ∧ ∀ M3 : gM, M3 = (g_wi M (a0 + 23) (x4).toNatClampNeg v2) → kp 1 M3 a0 0 x3 (x4 + 1))))
def qX9_years (N K : Nat) (R : Int32 → gM → Prop) : Nat → Nat → gM → Nat → Int32 → Int32 → Int32 → Prop
  | 0, _, _, _, _, _, _ => False
  | n + 1, h, M, a0, x2, x3, x4 => if h = 0 then pX9_years_43 N K (qX9_years N K R n) R M a0 x2 x3 else pX9_years_68 N K (qX9_years N K R n) R M a0 x3 x4
def pX9_years (N K : Nat) (M : gM) (a0 : Nat) (x1 : Int32) (x2 : Int32) (R : Int32 → gM → Prop) : Prop := pX9_years_0 N K (qX9_years N K R N) R M a0 x1 x2
def ULX9_years (X : gX) (d mc ms : Nat) (Q : Option Value → gM → Prop) (N K : Nat) (R : Int32 → gM → Prop) (n : Nat) : Prop := (∀ (M : gM) (a0 : Nat) (x2 : Int32) (x3 : Int32) (x4 : Int32), Mo M a0 → qX9_years N K R n 0 M a0 x2 x3 x4 → (∀ (v : Int32) (M1 : gM), Sm M M1 → R v M1 → Q (some (.int v)) M1) → Go X (d + K + 12) mc ms kX9_years Q 43 [(0, .ref a0), (2, .int (x2)), (3, .int (x3))] [] M 0 0) ∧ (∀ (M : gM) (a0 : Nat) (x2 : Int32) (x3 : Int32) (x4 : Int32), Mo M a0 → qX9_years N K R n 1 M a0 x2 x3 x4 → (∀ (v : Int32) (M1 : gM), Sm M M1 → R v M1 → Q (some (.int v)) M1) → Go X (d + K + 12) mc ms kX9_years Q 68 [(0, .ref a0), (3, .int (x3)), (4, .int (x4))] [] M 0 0)
set_option maxRecDepth 10000 in
theorem ulX9_years {X : gX} {d mc ms : Nat} {Q : Option Value → gM → Prop} {N K : Nat} {R : Int32 → gM → Prop} : ∀ n : Nat, ULX9_years X d mc ms Q N K R n := by
  intro n
  induction n with
  | zero => exact ⟨fun _ _ _ _ _ _ h _ => h.elim, fun _ _ _ _ _ _ h _ => h.elim⟩
  | succ n ih =>
    refine ⟨?_, ?_⟩
    · intro M a0 x2 x3 x4 s0 H hR
      rw [qX9_years, if_pos (show (0 : Nat) = 0 from rfl)] at H
      unfold pX9_years_43 at H
      refine g_iload_n 2 44 dX9_years_43 rfl rfl ?_
      refine g_iload_n 1 45 dX9_years_44 rfl rfl ?_
      refine g_icmp_ge 58 48 dX9_years_45 rfl rfl (fun c1 => ?_) (fun c1 => ?_)
      · skip
        replace H := H.1 c1
        refine g_aload_n 0 59 dX9_years_58 rfl rfl ?_
        refine g_getR 62 (a0 + 2) dX9_years_59 rfl flX9_28 s0.1 s0.2.2.2.1 ?_
        refine g_iconst (0) 63 dX9_years_62 rfl rfl ?_
        refine h_iaload 64 0 dX9_years_63 rfl rfl s0.2.2.2.2.1 (vp_lit rfl) ?_
        refine g_istore_n 65 [(3, .int ((g_mi M (a0 + 2) 0))), (0, .ref a0), (2, .int (x2))] dX9_years_64 rfl (Nat.le_of_ble_eq_true rfl) rfl ?_
        refine g_iconst (0) 66 dX9_years_65 rfl rfl ?_
        refine g_istore 68 [(4, .int (0)), (3, .int ((g_mi M (a0 + 2) 0))), (0, .ref a0), (2, .int (x2))] dX9_years_66 rfl (Nat.le_of_ble_eq_true rfl) rfl ?_
        exact g_sub [2, 1, 0] _ rfl (ih.2 M a0 0 (g_mi M (a0 + 2) 0) 0 s0 H (fun v M1 j r => hR v M1 j r))
      · skip
        replace H := H.2 c1
        refine g_aload_n 0 49 dX9_years_48 rfl rfl ?_
        refine g_callV (mc1 := 0) (ms1 := 0) (b := a0) (rest := []) (av := []) kX9_drawnAct 52 dX9_years_49 rfl rfl mbX9_489 imX9_drawnAct seX9_drawnAct gcl9.1 s0.1 (Nat.le_of_ble_eq_true rfl) (Nat.zero_le _) (Nat.zero_le _) (uX9_drawnAct (N := N) (K := K) s0 H (fun M1 jj H => ?_))
        have j1 : Sm M M1 := jj
        show Go X (d + K + 12) mc ms kX9_years Q 52 [(0, .ref a0), (2, .int (x2)), (3, .int (x3))] [] M1 0 0
        refine g_iinc _ 2 55 [(3, .int ((x3 + 1))), (0, .ref a0), (2, .int (x2))] dX9_years_52 rfl rfl rfl (Nat.le_of_ble_eq_true rfl) rfl ?_
        refine g_goto 43 dX9_years_55 rfl ?_
        exact g_sub [1, 2, 0] _ rfl (ih.1 M1 a0 x2 (x3 + 1) 0 (Mo.sm j1 s0) H (fun v M1 j r => hR v M1 (Sm.tr j1 j) r))
    · intro M a0 x2 x3 x4 s0 H hR
      rw [qX9_years, if_neg (show ¬ (1 : Nat) = 0 by decide)] at H
      unfold pX9_years_68 at H
      refine g_iload 2 70 dX9_years_68 rfl rfl ?_
      refine g_bipush (40) 72 dX9_years_70 rfl rfl ?_
      refine g_icmp_ge 95 75 dX9_years_72 rfl rfl (fun c1 => ?_) (fun c1 => ?_)
      · skip
        replace H := H.1 c1
        refine g_aload_n 0 96 dX9_years_95 rfl rfl ?_
        refine g_iconst (0) 97 dX9_years_96 rfl rfl ?_
        refine g_callV (mc1 := 0) (ms1 := 0) (b := a0) (rest := []) (av := [.int (0)]) kX9_takesBack 100 dX9_years_97 rfl rfl mbX9_446 imX9_takesBack seX9_takesBack gcl9.1 s0.1 (Nat.le_of_ble_eq_true rfl) (Nat.zero_le _) (Nat.zero_le _) (uX9_takesBack (N := N) (K := K) s0 H (fun M1 jj H => ?_))
        have j1 : Sm M M1 := jj
        show Go X (d + K + 12) mc ms kX9_years Q 100 [(0, .ref a0), (3, .int (x3)), (4, .int (x4))] [] M1 0 0
        refine g_aload_n 0 101 dX9_years_100 rfl rfl ?_
        refine g_iload_n 1 102 dX9_years_101 rfl rfl ?_
        refine g_callV (mc1 := 0) (ms1 := 0) (b := a0) (rest := []) (av := [.int (x3)]) kX9_good0 105 dX9_years_102 rfl rfl mbX9_14 imX9_good0 seX9_good0 gcl9.1 (Sm.k j1 s0.1) (Nat.le_of_ble_eq_true rfl) (Nat.zero_le _) (Nat.zero_le _) (uX9_good0 (N := N) (K := K) (Mo.sm j1 s0) H (fun v1 M2 jj H => ?_))
        have j2 : Sm M M2 := Sm.tr j1 jj
        show Go X (d + K + 12) mc ms kX9_years Q 105 [(0, .ref a0), (3, .int (x3)), (4, .int (x4))] [.int (v1)] M2 0 0
        exact g_iret dX9_years_105 rfl (Nat.zero_le _) (Nat.zero_le _) (hR _ _ j2 H)
      · skip
        replace H := H.2 c1
        refine g_aload_n 0 76 dX9_years_75 rfl rfl ?_
        refine g_getR 79 (a0 + 23) dX9_years_76 rfl flX9_100 s0.1 s0.2.2.2.2.2.2.2.2.2.2.2.2.2.2.2.2.2.2.2.2.2.2.2.2.2.2.2.2.2.2.2.2.2.2.2.2.2.2.2.2.2.2.2.2.2.1 ?_
        refine g_iload 2 81 dX9_years_79 rfl rfl ?_
        refine g_aload_n 0 82 dX9_years_81 rfl rfl ?_
        refine g_iload 2 84 dX9_years_82 rfl rfl ?_
        refine g_iconst (1) 85 dX9_years_84 rfl rfl ?_
        refine g_callV (mc1 := 0) (ms1 := 0) (b := a0) (rest := [.int (x4), .ref (a0 + 23)]) (av := [.int (x4), .int (1)]) kX9_found 88 dX9_years_85 rfl rfl mbX9_311 imX9_found seX9_found gcl9.1 s0.1 (Nat.le_of_ble_eq_true rfl) (Nat.zero_le _) (Nat.zero_le _) (uX9_found (N := N) (K := K) s0 H (fun v2 H => ?_))
        show Go X (d + K + 12) mc ms kX9_years Q 88 [(0, .ref a0), (3, .int (x3)), (4, .int (x4))] [.int (v2), .int (x4), .ref (a0 + 23)] M 0 0
        obtain ⟨b1, H⟩ := H
        refine h_iastore 89 (x4).toNatClampNeg dX9_years_88 rfl rfl s0.2.2.2.2.2.2.2.2.2.2.2.2.2.2.2.2.2.2.2.2.2.2.2.2.2.2.2.2.2.2.2.2.2.2.2.2.2.2.2.2.2.2.2.2.2.2 b1 ?_
        generalize hM3 : (g_wi M (a0 + 23) (x4).toNatClampNeg v2) = M3
        have j3 : Sm M M3 := by rw [← hM3]; exact (Sm.wi Sm.rf)
        replace H := H M3 hM3.symm
        refine g_iinc _ 2 92 [(4, .int ((x4 + 1))), (0, .ref a0), (3, .int (x3))] dX9_years_89 rfl rfl rfl (Nat.le_of_ble_eq_true rfl) rfl ?_
        refine g_goto 68 dX9_years_92 rfl ?_
        exact g_sub [1, 2, 0] _ rfl (ih.2 M3 a0 0 x3 (x4 + 1) (Mo.sm j3 s0) H (fun v M1 j r => hR v M1 (Sm.tr j3 j) r))
set_option maxRecDepth 10000 in
theorem uX9_years {N K : Nat} {X : gX} {d mc ms : Nat} {Q : Option Value → gM → Prop} {M : gM} {a0 : Nat} {x1 : Int32} {x2 : Int32} {R : Int32 → gM → Prop} (s0 : Mo M a0) (H : pX9_years N K M a0 x1 x2 R) (hR : ∀ (v : Int32) (M1 : gM), Sm M M1 → R v M1 → Q (some (.int v)) M1) : Cn X (d + K + 12) mc ms kX9_years [.ref a0, .int (x1), .int (x2)] M Q := by
  have ih := ulX9_years (X := X) (d := d) (mc := mc) (ms := ms) (Q := Q) (N := N) (K := K) (R := R) N
  unfold pX9_years pX9_years_0 at H
  refine g_meth rfl rfl (Nat.le_of_ble_eq_true rfl) rfl ?_
  refine g_iload_n 1 1 dX9_years_0 rfl rfl ?_
  refine g_iconst (0) 2 dX9_years_1 rfl rfl ?_
  refine g_ldc (1000000) 4 dX9_years_2 rfl q6_128 ?_
  refine g_callS (mc1 := 0) (ms1 := 0) (rest := []) (av := [.int (x1), .int (0), .int (1000000)]) kX9_lies 7 dX9_years_4 rfl rfl mbX9_18 smX9_lies (Nat.le_of_ble_eq_true rfl) (Nat.zero_le _) (Nat.zero_le _) (tX9_lies  ?_)
  show Go X (d + K + 12) mc ms kX9_years Q 7 [(0, .ref a0), (1, .int (x1)), (2, .int (x2))] [.int ((fX9_lies x1 0 1000000))] M 0 0
  generalize hv1 : (fX9_lies x1 0 1000000) = v1
  replace H := H v1 hv1.symm
  refine g_if_eq 20 10 dX9_years_7 rfl rfl (fun c1 => ?_) (fun c1 => ?_)
  · skip
    replace H := H.1 c1
    refine g_aload_n 0 21 dX9_years_20 rfl rfl ?_
    refine g_iconst ((-1)) 22 dX9_years_21 rfl rfl ?_
    refine g_callV (mc1 := 0) (ms1 := 0) (b := a0) (rest := []) (av := [.int ((-1))]) kX9_refuses 25 dX9_years_22 rfl rfl mbX9_103 imX9_refuses seX9_refuses gcl9.1 s0.1 (Nat.le_of_ble_eq_true rfl) (Nat.zero_le _) (Nat.zero_le _) (uX9_refuses (N := N) (K := K) s0 H (fun v2 M1 jj H => ?_))
    have j1 : Sm M M1 := jj
    show Go X (d + K + 12) mc ms kX9_years Q 25 [(0, .ref a0), (1, .int (x1)), (2, .int (x2))] [.int (v2)] M1 0 0
    exact g_iret dX9_years_25 rfl (Nat.zero_le _) (Nat.zero_le _) (hR _ _ j1 H)
  · skip
    replace H := H.2 c1
    refine g_iload_n 2 11 dX9_years_10 rfl rfl ?_
    refine g_iconst (1) 12 dX9_years_11 rfl rfl ?_
    refine g_bipush (60) 14 dX9_years_12 rfl rfl ?_
    refine g_callS (mc1 := 0) (ms1 := 0) (rest := []) (av := [.int (x2), .int (1), .int (60)]) kX9_lies 17 dX9_years_14 rfl rfl mbX9_18 smX9_lies (Nat.le_of_ble_eq_true rfl) (Nat.zero_le _) (Nat.zero_le _) (tX9_lies  ?_)
    show Go X (d + K + 12) mc ms kX9_years Q 17 [(0, .ref a0), (1, .int (x1)), (2, .int (x2))] [.int ((fX9_lies x2 1 60))] M 0 0
    generalize hv3 : (fX9_lies x2 1 60) = v3
    replace H := H v3 hv3.symm
    refine g_if_ne 26 20 dX9_years_17 rfl rfl (fun c2 => ?_) (fun c2 => ?_)
    · skip
      replace H := H.1 c2
      refine g_aload_n 0 27 dX9_years_26 rfl rfl ?_
      refine g_iload_n 1 28 dX9_years_27 rfl rfl ?_
      refine g_putI 31 dX9_years_28 rfl flX9_476 s0.1 ?_
      generalize hM2 : (g_wi M a0 49 x1) = M2
      have j2 : Sm M M2 := by rw [← hM2]; exact (Sm.wi Sm.rf)
      replace H := H M2 hM2.symm
      refine g_aload_n 0 32 dX9_years_31 rfl rfl ?_
      refine g_iconst (1) 33 dX9_years_32 rfl rfl ?_
      refine g_putZ 36 dX9_years_33 rfl flX9_486 (Sm.k j2 s0.1) (by decide) ?_
      generalize hM3 : (g_wi M2 a0 48 1) = M3
      have j3 : Sm M M3 := by rw [← hM3]; exact (Sm.wi j2)
      replace H := H M3 hM3.symm
      refine g_aload_n 0 37 dX9_years_36 rfl rfl ?_
      refine g_iconst (0) 38 dX9_years_37 rfl rfl ?_
      refine g_callV (mc1 := 0) (ms1 := 0) (b := a0) (rest := []) (av := [.int (0)]) kX9_laysAside 41 dX9_years_38 rfl rfl mbX9_365 imX9_laysAside seX9_laysAside gcl9.1 (Sm.k j3 s0.1) (Nat.le_of_ble_eq_true rfl) (Nat.zero_le _) (Nat.zero_le _) (uX9_laysAside (N := N) (K := K) (Mo.sm j3 s0) H (fun M4 jj H => ?_))
      have j4 : Sm M M4 := Sm.tr j3 jj
      show Go X (d + K + 12) mc ms kX9_years Q 41 [(0, .ref a0), (1, .int (x1)), (2, .int (x2))] [] M4 0 0
      refine g_iconst (0) 42 dX9_years_41 rfl rfl ?_
      refine g_istore_n 43 [(3, .int (0)), (0, .ref a0), (1, .int (x1)), (2, .int (x2))] dX9_years_42 rfl (Nat.le_of_ble_eq_true rfl) rfl ?_
      exact g_sub [1, 3, 0] _ rfl (ih.1 M4 a0 x2 0 0 (Mo.sm j4 s0) H (fun v M1 j r => hR v M1 (Sm.tr j4 j) r))
    · skip
      replace H := H.2 c2
      refine g_aload_n 0 21 dX9_years_20 rfl rfl ?_
      refine g_iconst ((-1)) 22 dX9_years_21 rfl rfl ?_
      refine g_callV (mc1 := 0) (ms1 := 0) (b := a0) (rest := []) (av := [.int ((-1))]) kX9_refuses 25 dX9_years_22 rfl rfl mbX9_103 imX9_refuses seX9_refuses gcl9.1 s0.1 (Nat.le_of_ble_eq_true rfl) (Nat.zero_le _) (Nat.zero_le _) (uX9_refuses (N := N) (K := K) s0 H (fun v4 M5 jj H => ?_))
      have j5 : Sm M M5 := jj
      show Go X (d + K + 12) mc ms kX9_years Q 25 [(0, .ref a0), (1, .int (x1)), (2, .int (x2))] [.int (v4)] M5 0 0
      exact g_iret dX9_years_25 rfl (Nat.zero_le _) (Nat.zero_le _) (hR _ _ j5 H)
/-! X9_key -/
def pX9_key (N K : Nat) (M : gM) (a0 : Nat) (x1 : Int32) (x2 : Int32) (R : Int32 → gM → Prop) : Prop := (EX9_isKey M x1) ∧ ∀ v1 : Int32, v1 = (fX9_isKey x1) → ((¬ v1 = 0 → ((x2 = 0 → (EX9_isThere N M a0 x1) ∧ ∀ v2 : Int32, v2 = (fX9_isThere N M a0 x1) → ((v2 = 0 → R 0 M) ∧ (¬ v2 = 0 → R 1 M))) ∧ (¬ x2 = 0 → ((x2 = 1 → pX9_isBarred N K M a0 x1 (fun v3 M1 => ((v3 = 0 → R 0 M1) ∧ (¬ v3 = 0 → R 1 M1)))) ∧ (¬ x2 = 1 → ((x2 = 2 → (EX9_vertexOf M x1 (x2 - 2) (g_mi M (a0 + 2) 32) (g_mi M (a0 + 2) 31)) ∧ ∀ v4 : Int32, v4 = (fX9_vertexOf x1 (x2 - 2) (g_mi M (a0 + 2) 32) (g_mi M (a0 + 2) 31)) → R v4 M) ∧ (¬ x2 = 2 → ((x2 = 3 → (EX9_vertexOf M x1 (x2 - 2) (g_mi M (a0 + 2) 32) (g_mi M (a0 + 2) 31)) ∧ ∀ v5 : Int32, v5 = (fX9_vertexOf x1 (x2 - 2) (g_mi M (a0 + 2) 32) (g_mi M (a0 + 2) 31)) → R v5 M) ∧ (¬ x2 = 3 → ((x2 = 4 → (EX9_vertexOf M x1 (x2 - 2) (g_mi M (a0 + 2) 32) (g_mi M (a0 + 2) 31)) ∧ ∀ v6 : Int32, v6 = (fX9_vertexOf x1 (x2 - 2) (g_mi M (a0 + 2) 32) (g_mi M (a0 + 2) 31)) → R v6 M) ∧ (¬ x2 = 4 → R (-1) M))))))))))) ∧ (v1 = 0 → R (-1) M))
set_option maxRecDepth 10000 in
theorem uX9_key {N K : Nat} {X : gX} {d mc ms : Nat} {Q : Option Value → gM → Prop} {M : gM} {a0 : Nat} {x1 : Int32} {x2 : Int32} {R : Int32 → gM → Prop} (s0 : Mo M a0) (H : pX9_key N K M a0 x1 x2 R) (hR : ∀ (v : Int32) (M1 : gM), Sm M M1 → R v M1 → Q (some (.int v)) M1) : Cn X (d + K + 9) mc ms kX9_key [.ref a0, .int (x1), .int (x2)] M Q := by
  unfold pX9_key at H
  refine g_meth rfl rfl (Nat.le_of_ble_eq_true rfl) rfl ?_
  refine g_iload_n 1 1 dX9_key_0 rfl rfl ?_
  obtain ⟨b1, H⟩ := H
  refine g_callS (mc1 := 0) (ms1 := 0) (rest := []) (av := [.int (x1)]) kX9_isKey 4 dX9_key_1 rfl rfl mbX9_127 smX9_isKey (Nat.le_of_ble_eq_true rfl) (Nat.zero_le _) (Nat.zero_le _) (tX9_isKey b1 ?_)
  show Go X (d + K + 9) mc ms kX9_key Q 4 [(0, .ref a0), (1, .int (x1)), (2, .int (x2))] [.int ((fX9_isKey x1))] M 0 0
  generalize hv1 : (fX9_isKey x1) = v1
  replace H := H v1 hv1.symm
  refine g_if_ne 9 7 dX9_key_4 rfl rfl (fun c1 => ?_) (fun c1 => ?_)
  · skip
    replace H := H.1 c1
    refine g_iload_n 2 10 dX9_key_9 rfl rfl ?_
    by_cases c2 : x2 = 0
    · refine h_tabIn (0) 44 dX9_key_10 c2 (by decide) (by decide) rfl rfl ?_
      replace H := H.1 c2
      refine g_aload_n 0 45 dX9_key_44 rfl rfl ?_
      refine g_iload_n 1 46 dX9_key_45 rfl rfl ?_
      obtain ⟨b2, H⟩ := H
      refine g_callV (mc1 := 0) (ms1 := 0) (b := a0) (rest := []) (av := [.int (x1)]) kX9_isThere 49 dX9_key_46 rfl rfl mbX9_131 imX9_isThere seX9_isThere gcl9.1 s0.1 (Nat.le_of_ble_eq_true rfl) (Nat.zero_le _) (Nat.zero_le _) (tX9_isThere (N := N) s0 b2 ?_)
      show Go X (d + K + 9) mc ms kX9_key Q 49 [(0, .ref a0), (1, .int (x1)), (2, .int (x2))] [.int ((fX9_isThere N M a0 x1))] M 0 0
      generalize hv2 : (fX9_isThere N M a0 x1) = v2
      replace H := H v2 hv2.symm
      refine g_if_eq 56 52 dX9_key_49 rfl rfl (fun c3 => ?_) (fun c3 => ?_)
      · skip
        replace H := H.1 c3
        refine g_iconst (0) 57 dX9_key_56 rfl rfl ?_
        exact g_iret dX9_key_57 rfl (Nat.zero_le _) (Nat.zero_le _) (hR _ _ Sm.rf H)
      · skip
        replace H := H.2 c3
        refine g_iconst (1) 53 dX9_key_52 rfl rfl ?_
        refine g_goto 57 dX9_key_53 rfl ?_
        exact g_iret dX9_key_57 rfl (Nat.zero_le _) (Nat.zero_le _) (hR _ _ Sm.rf H)
    replace H := H.2 c2
    by_cases c4 : x2 = 1
    · refine h_tabIn (1) 58 dX9_key_10 c4 (by decide) (by decide) rfl rfl ?_
      replace H := H.1 c4
      refine g_aload_n 0 59 dX9_key_58 rfl rfl ?_
      refine g_iload_n 1 60 dX9_key_59 rfl rfl ?_
      refine g_callV (mc1 := 0) (ms1 := 0) (b := a0) (rest := []) (av := [.int (x1)]) kX9_isBarred 63 dX9_key_60 rfl rfl mbX9_134 imX9_isBarred seX9_isBarred gcl9.1 s0.1 (Nat.le_of_ble_eq_true rfl) (Nat.zero_le _) (Nat.zero_le _) (uX9_isBarred (N := N) (K := K) s0 H (fun v3 M1 jj H => ?_))
      have j1 : Sm M M1 := jj
      show Go X (d + K + 9) mc ms kX9_key Q 63 [(0, .ref a0), (1, .int (x1)), (2, .int (x2))] [.int (v3)] M1 0 0
      refine g_if_eq 70 66 dX9_key_63 rfl rfl (fun c5 => ?_) (fun c5 => ?_)
      · skip
        replace H := H.1 c5
        refine g_iconst (0) 71 dX9_key_70 rfl rfl ?_
        exact g_iret dX9_key_71 rfl (Nat.zero_le _) (Nat.zero_le _) (hR _ _ j1 H)
      · skip
        replace H := H.2 c5
        refine g_iconst (1) 67 dX9_key_66 rfl rfl ?_
        refine g_goto 71 dX9_key_67 rfl ?_
        exact g_iret dX9_key_71 rfl (Nat.zero_le _) (Nat.zero_le _) (hR _ _ j1 H)
    replace H := H.2 c4
    by_cases c6 : x2 = 2
    · refine h_tabIn (2) 72 dX9_key_10 c6 (by decide) (by decide) rfl rfl ?_
      replace H := H.1 c6
      refine g_iload_n 1 73 dX9_key_72 rfl rfl ?_
      refine g_iload_n 2 74 dX9_key_73 rfl rfl ?_
      refine g_iconst (2) 75 dX9_key_74 rfl rfl ?_
      refine g_isub 76 dX9_key_75 rfl ?_
      refine g_aload_n 0 77 dX9_key_76 rfl rfl ?_
      refine g_getR 80 (a0 + 2) dX9_key_77 rfl flX9_28 s0.1 s0.2.2.2.1 ?_
      refine g_bipush (32) 82 dX9_key_80 rfl rfl ?_
      refine h_iaload 83 32 dX9_key_82 rfl rfl s0.2.2.2.2.1 (vp_lit rfl) ?_
      refine g_aload_n 0 84 dX9_key_83 rfl rfl ?_
      refine g_getR 87 (a0 + 2) dX9_key_84 rfl flX9_28 s0.1 s0.2.2.2.1 ?_
      refine g_bipush (31) 89 dX9_key_87 rfl rfl ?_
      refine h_iaload 90 31 dX9_key_89 rfl rfl s0.2.2.2.2.1 (vp_lit rfl) ?_
      obtain ⟨b3, H⟩ := H
      refine g_callS (mc1 := 0) (ms1 := 0) (rest := []) (av := [.int (x1), .int ((x2 - 2)), .int ((g_mi M (a0 + 2) 32)), .int ((g_mi M (a0 + 2) 31))]) kX9_vertexOf 93 dX9_key_90 rfl rfl mbX9_115 smX9_vertexOf (Nat.le_of_ble_eq_true rfl) (Nat.zero_le _) (Nat.zero_le _) (tX9_vertexOf b3 ?_)
      show Go X (d + K + 9) mc ms kX9_key Q 93 [(0, .ref a0), (1, .int (x1)), (2, .int (x2))] [.int ((fX9_vertexOf x1 (x2 - 2) (g_mi M (a0 + 2) 32) (g_mi M (a0 + 2) 31)))] M 0 0
      generalize hv4 : (fX9_vertexOf x1 (x2 - 2) (g_mi M (a0 + 2) 32) (g_mi M (a0 + 2) 31)) = v4
      replace H := H v4 hv4.symm
      exact g_iret dX9_key_93 rfl (Nat.zero_le _) (Nat.zero_le _) (hR _ _ Sm.rf H)
    replace H := H.2 c6
    by_cases c7 : x2 = 3
    · refine h_tabIn (3) 72 dX9_key_10 c7 (by decide) (by decide) rfl rfl ?_
      replace H := H.1 c7
      refine g_iload_n 1 73 dX9_key_72 rfl rfl ?_
      refine g_iload_n 2 74 dX9_key_73 rfl rfl ?_
      refine g_iconst (2) 75 dX9_key_74 rfl rfl ?_
      refine g_isub 76 dX9_key_75 rfl ?_
      refine g_aload_n 0 77 dX9_key_76 rfl rfl ?_
      refine g_getR 80 (a0 + 2) dX9_key_77 rfl flX9_28 s0.1 s0.2.2.2.1 ?_
      refine g_bipush (32) 82 dX9_key_80 rfl rfl ?_
      refine h_iaload 83 32 dX9_key_82 rfl rfl s0.2.2.2.2.1 (vp_lit rfl) ?_
      refine g_aload_n 0 84 dX9_key_83 rfl rfl ?_
      refine g_getR 87 (a0 + 2) dX9_key_84 rfl flX9_28 s0.1 s0.2.2.2.1 ?_
      refine g_bipush (31) 89 dX9_key_87 rfl rfl ?_
      refine h_iaload 90 31 dX9_key_89 rfl rfl s0.2.2.2.2.1 (vp_lit rfl) ?_
      obtain ⟨b4, H⟩ := H
      refine g_callS (mc1 := 0) (ms1 := 0) (rest := []) (av := [.int (x1), .int ((x2 - 2)), .int ((g_mi M (a0 + 2) 32)), .int ((g_mi M (a0 + 2) 31))]) kX9_vertexOf 93 dX9_key_90 rfl rfl mbX9_115 smX9_vertexOf (Nat.le_of_ble_eq_true rfl) (Nat.zero_le _) (Nat.zero_le _) (tX9_vertexOf b4 ?_)
      show Go X (d + K + 9) mc ms kX9_key Q 93 [(0, .ref a0), (1, .int (x1)), (2, .int (x2))] [.int ((fX9_vertexOf x1 (x2 - 2) (g_mi M (a0 + 2) 32) (g_mi M (a0 + 2) 31)))] M 0 0
      generalize hv5 : (fX9_vertexOf x1 (x2 - 2) (g_mi M (a0 + 2) 32) (g_mi M (a0 + 2) 31)) = v5
      replace H := H v5 hv5.symm
      exact g_iret dX9_key_93 rfl (Nat.zero_le _) (Nat.zero_le _) (hR _ _ Sm.rf H)
    replace H := H.2 c7
    by_cases c8 : x2 = 4
    · refine h_tabIn (4) 72 dX9_key_10 c8 (by decide) (by decide) rfl rfl ?_
      replace H := H.1 c8
      refine g_iload_n 1 73 dX9_key_72 rfl rfl ?_
      refine g_iload_n 2 74 dX9_key_73 rfl rfl ?_
      refine g_iconst (2) 75 dX9_key_74 rfl rfl ?_
      refine g_isub 76 dX9_key_75 rfl ?_
      refine g_aload_n 0 77 dX9_key_76 rfl rfl ?_
      refine g_getR 80 (a0 + 2) dX9_key_77 rfl flX9_28 s0.1 s0.2.2.2.1 ?_
      refine g_bipush (32) 82 dX9_key_80 rfl rfl ?_
      refine h_iaload 83 32 dX9_key_82 rfl rfl s0.2.2.2.2.1 (vp_lit rfl) ?_
      refine g_aload_n 0 84 dX9_key_83 rfl rfl ?_
      refine g_getR 87 (a0 + 2) dX9_key_84 rfl flX9_28 s0.1 s0.2.2.2.1 ?_
      refine g_bipush (31) 89 dX9_key_87 rfl rfl ?_
      refine h_iaload 90 31 dX9_key_89 rfl rfl s0.2.2.2.2.1 (vp_lit rfl) ?_
      obtain ⟨b5, H⟩ := H
      refine g_callS (mc1 := 0) (ms1 := 0) (rest := []) (av := [.int (x1), .int ((x2 - 2)), .int ((g_mi M (a0 + 2) 32)), .int ((g_mi M (a0 + 2) 31))]) kX9_vertexOf 93 dX9_key_90 rfl rfl mbX9_115 smX9_vertexOf (Nat.le_of_ble_eq_true rfl) (Nat.zero_le _) (Nat.zero_le _) (tX9_vertexOf b5 ?_)
      show Go X (d + K + 9) mc ms kX9_key Q 93 [(0, .ref a0), (1, .int (x1)), (2, .int (x2))] [.int ((fX9_vertexOf x1 (x2 - 2) (g_mi M (a0 + 2) 32) (g_mi M (a0 + 2) 31)))] M 0 0
      generalize hv6 : (fX9_vertexOf x1 (x2 - 2) (g_mi M (a0 + 2) 32) (g_mi M (a0 + 2) 31)) = v6
      replace H := H v6 hv6.symm
      exact g_iret dX9_key_93 rfl (Nat.zero_le _) (Nat.zero_le _) (hR _ _ Sm.rf H)
    replace H := H.2 c8
    have tc2 := i_neT c2
    rw [show ((0 : Int32)).toInt = 0 from rfl] at tc2
    have tc4 := i_neT c4
    rw [show ((1 : Int32)).toInt = 1 from rfl] at tc4
    have tc6 := i_neT c6
    rw [show ((2 : Int32)).toInt = 2 from rfl] at tc6
    have tc7 := i_neT c7
    rw [show ((3 : Int32)).toInt = 3 from rfl] at tc7
    have tc8 := i_neT c8
    rw [show ((4 : Int32)).toInt = 4 from rfl] at tc8
    refine g_tableOut 94 dX9_key_10 (by omega) rfl ?_
    refine g_iconst ((-1)) 95 dX9_key_94 rfl rfl ?_
    exact g_iret dX9_key_95 rfl (Nat.zero_le _) (Nat.zero_le _) (hR _ _ Sm.rf H)
  · skip
    replace H := H.2 c1
    refine g_iconst ((-1)) 8 dX9_key_7 rfl rfl ?_
    exact g_iret dX9_key_8 rfl (Nat.zero_le _) (Nat.zero_le _) (hR _ _ Sm.rf H)
/-! X9_vertex -/
def pX9_vertex (N K : Nat) (M : gM) (a0 : Nat) (x1 : Int32) (x2 : Int32) (R : Int32 → gM → Prop) : Prop := (EX9_isVertex M a0 x1) ∧ ∀ v1 : Int32, v1 = (fX9_isVertex M a0 x1) → ((v1 = 0 → R (-1) M) ∧ (¬ v1 = 0 → ∀ v2 : Int32, v2 = (fX9_lies x2 0 1) → ((¬ v2 = 0 → ((¬ x2 = 0 → pX9_ranksOf N K M a0 x1 (g_mi M (a0 + 2) 32) (fun v3 M1 => R v3 M1)) ∧ (x2 = 0 → (EX9_degreeOf N M a0 x1 (g_mi M (a0 + 2) 32)) ∧ ∀ v4 : Int32, v4 = (fX9_degreeOf N M a0 x1 (g_mi M (a0 + 2) 32)) → R v4 M))) ∧ (v2 = 0 → R (-1) M))))
set_option maxRecDepth 10000 in
theorem uX9_vertex {N K : Nat} {X : gX} {d mc ms : Nat} {Q : Option Value → gM → Prop} {M : gM} {a0 : Nat} {x1 : Int32} {x2 : Int32} {R : Int32 → gM → Prop} (s0 : Mo M a0) (H : pX9_vertex N K M a0 x1 x2 R) (hR : ∀ (v : Int32) (M1 : gM), Sm M M1 → R v M1 → Q (some (.int v)) M1) : Cn X (d + K + 9) mc ms kX9_vertex [.ref a0, .int (x1), .int (x2)] M Q := by
  unfold pX9_vertex at H
  refine g_meth rfl rfl (Nat.le_of_ble_eq_true rfl) rfl ?_
  refine g_aload_n 0 1 dX9_vertex_0 rfl rfl ?_
  refine g_iload_n 1 2 dX9_vertex_1 rfl rfl ?_
  obtain ⟨b1, H⟩ := H
  refine g_callV (mc1 := 0) (ms1 := 0) (b := a0) (rest := []) (av := [.int (x1)]) kX9_isVertex 5 dX9_vertex_2 rfl rfl mbX9_137 imX9_isVertex seX9_isVertex gcl9.1 s0.1 (Nat.le_of_ble_eq_true rfl) (Nat.zero_le _) (Nat.zero_le _) (tX9_isVertex s0 b1 ?_)
  show Go X (d + K + 9) mc ms kX9_vertex Q 5 [(0, .ref a0), (1, .int (x1)), (2, .int (x2))] [.int ((fX9_isVertex M a0 x1))] M 0 0
  generalize hv1 : (fX9_isVertex M a0 x1) = v1
  replace H := H v1 hv1.symm
  refine g_if_eq 17 8 dX9_vertex_5 rfl rfl (fun c1 => ?_) (fun c1 => ?_)
  · skip
    replace H := H.1 c1
    refine g_iconst ((-1)) 18 dX9_vertex_17 rfl rfl ?_
    exact g_iret dX9_vertex_18 rfl (Nat.zero_le _) (Nat.zero_le _) (hR _ _ Sm.rf H)
  · skip
    replace H := H.2 c1
    refine g_iload_n 2 9 dX9_vertex_8 rfl rfl ?_
    refine g_iconst (0) 10 dX9_vertex_9 rfl rfl ?_
    refine g_iconst (1) 11 dX9_vertex_10 rfl rfl ?_
    refine g_callS (mc1 := 0) (ms1 := 0) (rest := []) (av := [.int (x2), .int (0), .int (1)]) kX9_lies 14 dX9_vertex_11 rfl rfl mbX9_18 smX9_lies (Nat.le_of_ble_eq_true rfl) (Nat.zero_le _) (Nat.zero_le _) (tX9_lies  ?_)
    show Go X (d + K + 9) mc ms kX9_vertex Q 14 [(0, .ref a0), (1, .int (x1)), (2, .int (x2))] [.int ((fX9_lies x2 0 1))] M 0 0
    generalize hv2 : (fX9_lies x2 0 1) = v2
    replace H := H v2 hv2.symm
    refine g_if_ne 19 17 dX9_vertex_14 rfl rfl (fun c2 => ?_) (fun c2 => ?_)
    · skip
      replace H := H.1 c2
      refine g_iload_n 2 20 dX9_vertex_19 rfl rfl ?_
      refine g_if_ne 38 23 dX9_vertex_20 rfl rfl (fun c3 => ?_) (fun c3 => ?_)
      · skip
        replace H := H.1 c3
        refine g_aload_n 0 39 dX9_vertex_38 rfl rfl ?_
        refine g_iload_n 1 40 dX9_vertex_39 rfl rfl ?_
        refine g_aload_n 0 41 dX9_vertex_40 rfl rfl ?_
        refine g_getR 44 (a0 + 2) dX9_vertex_41 rfl flX9_28 s0.1 s0.2.2.2.1 ?_
        refine g_bipush (32) 46 dX9_vertex_44 rfl rfl ?_
        refine h_iaload 47 32 dX9_vertex_46 rfl rfl s0.2.2.2.2.1 (vp_lit rfl) ?_
        refine g_callV (mc1 := 0) (ms1 := 0) (b := a0) (rest := []) (av := [.int (x1), .int ((g_mi M (a0 + 2) 32))]) kX9_ranksOf 50 dX9_vertex_47 rfl rfl mbX9_144 imX9_ranksOf seX9_ranksOf gcl9.1 s0.1 (Nat.le_of_ble_eq_true rfl) (Nat.zero_le _) (Nat.zero_le _) (uX9_ranksOf (N := N) (K := K) s0 H (fun v3 M1 jj H => ?_))
        have j1 : Sm M M1 := jj
        show Go X (d + K + 9) mc ms kX9_vertex Q 50 [(0, .ref a0), (1, .int (x1)), (2, .int (x2))] [.int (v3)] M1 0 0
        exact g_iret dX9_vertex_50 rfl (Nat.zero_le _) (Nat.zero_le _) (hR _ _ j1 H)
      · skip
        replace H := H.2 c3
        refine g_aload_n 0 24 dX9_vertex_23 rfl rfl ?_
        refine g_iload_n 1 25 dX9_vertex_24 rfl rfl ?_
        refine g_aload_n 0 26 dX9_vertex_25 rfl rfl ?_
        refine g_getR 29 (a0 + 2) dX9_vertex_26 rfl flX9_28 s0.1 s0.2.2.2.1 ?_
        refine g_bipush (32) 31 dX9_vertex_29 rfl rfl ?_
        refine h_iaload 32 32 dX9_vertex_31 rfl rfl s0.2.2.2.2.1 (vp_lit rfl) ?_
        obtain ⟨b2, H⟩ := H
        refine g_callV (mc1 := 0) (ms1 := 0) (b := a0) (rest := []) (av := [.int (x1), .int ((g_mi M (a0 + 2) 32))]) kX9_degreeOf 35 dX9_vertex_32 rfl rfl mbX9_140 imX9_degreeOf seX9_degreeOf gcl9.1 s0.1 (Nat.le_of_ble_eq_true rfl) (Nat.zero_le _) (Nat.zero_le _) (tX9_degreeOf (N := N) s0 b2 ?_)
        show Go X (d + K + 9) mc ms kX9_vertex Q 35 [(0, .ref a0), (1, .int (x1)), (2, .int (x2))] [.int ((fX9_degreeOf N M a0 x1 (g_mi M (a0 + 2) 32)))] M 0 0
        generalize hv4 : (fX9_degreeOf N M a0 x1 (g_mi M (a0 + 2) 32)) = v4
        replace H := H v4 hv4.symm
        refine g_goto 50 dX9_vertex_35 rfl ?_
        exact g_iret dX9_vertex_50 rfl (Nat.zero_le _) (Nat.zero_le _) (hR _ _ Sm.rf H)
    · skip
      replace H := H.2 c2
      refine g_iconst ((-1)) 18 dX9_vertex_17 rfl rfl ?_
      exact g_iret dX9_vertex_18 rfl (Nat.zero_le _) (Nat.zero_le _) (hR _ _ Sm.rf H)
/-! X9_row -/
def pX9_row_0 (N K : Nat) (kp : Nat → gM → Nat → Int32 → Int32 → Int32 → Prop) (R : Int32 → gM → Prop) (M : gM) (a0 : Nat) : Prop := ∀ M1 : gM, M1 = (g_wi M a0 13 0) → ((¬ (g_mi M a0 13) = 0 → ∀ M2 : gM, M2 = (g_wi M1 a0 6 (i_rm (g_mi M a0 13) 2)) → kp 0 M2 a0 (g_mi M a0 13) 0 0) ∧ ((g_mi M a0 13) = 0 → pX9_refuses N K M1 a0 (-6) (fun v1 M3 => R v1 M3)))
def pX9_row_32 (N K : Nat) (kp : Nat → gM → Nat → Int32 → Int32 → Int32 → Prop) (R : Int32 → gM → Prop) (M : gM) (a0 : Nat) (x1 : Int32) (x2 : Int32) (x3 : Int32) : Prop := ((x1 < (x3 + 2) → pX9_settled N K M a0 x2 (fun v1 M1 => R v1 M1)) ∧ (¬ x1 < (x3 + 2) → (vp_in (x3) 400) ∧ (vp_in ((x3 + 1)) 400) ∧ pX9_adds N K M a0 ((((g_mi M (a0 + 7) (x3).toNatClampNeg) &&& 255) * 4) + ((g_mi M (a0 + 7) ((x3 + 1)).toNatClampNeg) &&& 255)) (fun v2 M2 => ((v2 < 0 → ∀ M3 : gM, M3 = (g_wi M2 a0 6 ((g_mi M2 a0 6) + 1)) → kp 0 M3 a0 x1 (x2 + 0) (x3 + 2)) ∧ (¬ v2 < 0 → ∀ M4 : gM, M4 = (g_wi M2 a0 6 ((g_mi M2 a0 6) + 0)) → kp 0 M4 a0 x1 (x2 + 1) (x3 + 2))))))
def qX9_row (N K : Nat) (R : Int32 → gM → Prop) : Nat → Nat → gM → Nat → Int32 → Int32 → Int32 → Prop
  | 0, _, _, _, _, _, _ => False
  | n + 1, _, M, a0, x1, x2, x3 => pX9_row_32 N K (qX9_row N K R n) R M a0 x1 x2 x3
def pX9_row (N K : Nat) (M : gM) (a0 : Nat) (R : Int32 → gM → Prop) : Prop := pX9_row_0 N K (qX9_row N K R N) R M a0
def ULX9_row (X : gX) (d mc ms : Nat) (Q : Option Value → gM → Prop) (N K : Nat) (R : Int32 → gM → Prop) (n : Nat) : Prop := (∀ (M : gM) (a0 : Nat) (x1 : Int32) (x2 : Int32) (x3 : Int32), Mo M a0 → qX9_row N K R n 0 M a0 x1 x2 x3 → (∀ (v : Int32) (M1 : gM), Sm M M1 → R v M1 → Q (some (.int v)) M1) → Go X (d + K + 10) mc ms kX9_row Q 32 [(0, .ref a0), (1, .int (x1)), (2, .int (x2)), (3, .int (x3))] [] M 0 0)
set_option maxRecDepth 10000 in
theorem ulX9_row {X : gX} {d mc ms : Nat} {Q : Option Value → gM → Prop} {N K : Nat} {R : Int32 → gM → Prop} : ∀ n : Nat, ULX9_row X d mc ms Q N K R n := by
  intro n
  induction n with
  | zero => exact fun _ _ _ _ _ _ h _ => h.elim
  | succ n ih =>
    intro M a0 x1 x2 x3 s0 H hR
    rw [qX9_row] at H
    unfold pX9_row_32 at H
    refine g_iload_n 3 33 dX9_row_32 rfl rfl ?_
    refine g_iconst (2) 34 dX9_row_33 rfl rfl ?_
    refine g_iadd 35 dX9_row_34 rfl ?_
    refine g_iload_n 1 36 dX9_row_35 rfl rfl ?_
    refine g_icmp_gt 116 39 dX9_row_36 rfl rfl (fun c1 => ?_) (fun c1 => ?_)
    · skip
      replace H := H.1 c1
      refine g_aload_n 0 117 dX9_row_116 rfl rfl ?_
      refine g_iload_n 2 118 dX9_row_117 rfl rfl ?_
      refine g_callV (mc1 := 0) (ms1 := 0) (b := a0) (rest := []) (av := [.int (x2)]) kX9_settled 121 dX9_row_118 rfl rfl mbX9_106 imX9_settled seX9_settled gcl9.1 s0.1 (Nat.le_of_ble_eq_true rfl) (Nat.zero_le _) (Nat.zero_le _) (uX9_settled (N := N) (K := K) s0 H (fun v1 M1 jj H => ?_))
      have j1 : Sm M M1 := jj
      show Go X (d + K + 10) mc ms kX9_row Q 121 [(0, .ref a0), (1, .int (x1)), (2, .int (x2)), (3, .int (x3))] [.int (v1)] M1 0 0
      exact g_iret dX9_row_121 rfl (Nat.zero_le _) (Nat.zero_le _) (hR _ _ j1 H)
    · skip
      replace H := H.2 c1
      refine g_aload_n 0 40 dX9_row_39 rfl rfl ?_
      refine g_aload_n 0 41 dX9_row_40 rfl rfl ?_
      refine g_getR 44 (a0 + 7) dX9_row_41 rfl flX9_45 s0.1 s0.2.2.2.2.2.2.2.2.2.2.2.2.2.1 ?_
      refine g_iload_n 3 45 dX9_row_44 rfl rfl ?_
      obtain ⟨b1, H⟩ := H
      refine h_baload 46 (x3).toNatClampNeg dX9_row_45 rfl rfl s0.2.2.2.2.2.2.2.2.2.2.2.2.2.2.1 b1 ?_
      refine g_sipush (255) 49 dX9_row_46 rfl rfl ?_
      refine g_iand 50 dX9_row_49 rfl ?_
      refine g_iconst (4) 51 dX9_row_50 rfl rfl ?_
      refine g_imul 52 dX9_row_51 rfl ?_
      refine g_aload_n 0 53 dX9_row_52 rfl rfl ?_
      refine g_getR 56 (a0 + 7) dX9_row_53 rfl flX9_45 s0.1 s0.2.2.2.2.2.2.2.2.2.2.2.2.2.1 ?_
      refine g_iload_n 3 57 dX9_row_56 rfl rfl ?_
      refine g_iconst (1) 58 dX9_row_57 rfl rfl ?_
      refine g_iadd 59 dX9_row_58 rfl ?_
      obtain ⟨b2, H⟩ := H
      refine h_baload 60 ((x3 + 1)).toNatClampNeg dX9_row_59 rfl rfl s0.2.2.2.2.2.2.2.2.2.2.2.2.2.2.1 b2 ?_
      refine g_sipush (255) 63 dX9_row_60 rfl rfl ?_
      refine g_iand 64 dX9_row_63 rfl ?_
      refine g_iadd 65 dX9_row_64 rfl ?_
      refine g_callV (mc1 := 0) (ms1 := 0) (b := a0) (rest := []) (av := [.int (((((g_mi M (a0 + 7) (x3).toNatClampNeg) &&& 255) * 4) + ((g_mi M (a0 + 7) ((x3 + 1)).toNatClampNeg) &&& 255)))]) kX9_adds 68 dX9_row_65 rfl rfl mbX9_163 imX9_adds seX9_adds gcl9.1 s0.1 (Nat.le_of_ble_eq_true rfl) (Nat.zero_le _) (Nat.zero_le _) (uX9_adds (N := N) (K := K) s0 H (fun v2 M2 jj H => ?_))
      have j2 : Sm M M2 := jj
      show Go X (d + K + 10) mc ms kX9_row Q 68 [(0, .ref a0), (1, .int (x1)), (2, .int (x2)), (3, .int (x3))] [.int (v2)] M2 0 0
      refine g_if_lt 75 71 dX9_row_68 rfl rfl (fun c2 => ?_) (fun c2 => ?_)
      · skip
        replace H := H.1 c2
        refine g_iconst (0) 76 dX9_row_75 rfl rfl ?_
        refine g_istore 78 [(4, .int (0)), (0, .ref a0), (1, .int (x1)), (2, .int (x2)), (3, .int (x3))] dX9_row_76 rfl (Nat.le_of_ble_eq_true rfl) rfl ?_
        refine g_iload_n 3 79 dX9_row_78 rfl rfl ?_
        refine g_iload 0 81 dX9_row_79 rfl rfl ?_
        refine g_if_eq 88 84 dX9_row_81 rfl rfl (fun _ => ?_) (fun q => absurd q (by decide))
        refine g_iconst (0) 89 dX9_row_88 rfl rfl ?_
        refine g_iadd 90 dX9_row_89 rfl ?_
        refine g_istore_n 91 [(2, .int ((x2 + 0))), (4, .int (0)), (0, .ref a0), (1, .int (x1)), (3, .int (x3))] dX9_row_90 rfl (Nat.le_of_ble_eq_true rfl) rfl ?_
        refine g_aload_n 2 92 dX9_row_91 rfl rfl ?_
        refine g_dup 93 dX9_row_92 rfl rfl ?_
        refine g_getI 96 dX9_row_93 rfl flX9_160 (Sm.k j2 s0.1) ?_
        refine g_iload 1 98 dX9_row_96 rfl rfl ?_
        refine g_if_eq 105 101 dX9_row_98 rfl rfl (fun _ => ?_) (fun q => absurd q (by decide))
        refine g_iconst (1) 106 dX9_row_105 rfl rfl ?_
        refine g_iadd 107 dX9_row_106 rfl ?_
        refine g_putI 110 dX9_row_107 rfl flX9_160 (Sm.k j2 s0.1) ?_
        generalize hM3 : (g_wi M2 a0 6 ((g_mi M2 a0 6) + 1)) = M3
        have j3 : Sm M M3 := by rw [← hM3]; exact (Sm.wi j2)
        replace H := H M3 hM3.symm
        refine g_iinc _ 4 113 [(3, .int ((x3 + 2))), (2, .int ((x2 + 0))), (4, .int (0)), (0, .ref a0), (1, .int (x1))] dX9_row_110 rfl rfl rfl (Nat.le_of_ble_eq_true rfl) rfl ?_
        refine g_goto 32 dX9_row_113 rfl ?_
        exact g_sub [3, 4, 1, 0] _ rfl (ih M3 a0 x1 (x2 + 0) (x3 + 2) (Mo.sm j3 s0) H (fun v M1 j r => hR v M1 (Sm.tr j3 j) r))
      · skip
        replace H := H.2 c2
        refine g_iconst (1) 72 dX9_row_71 rfl rfl ?_
        refine g_goto 76 dX9_row_72 rfl ?_
        refine g_istore 78 [(4, .int (1)), (0, .ref a0), (1, .int (x1)), (2, .int (x2)), (3, .int (x3))] dX9_row_76 rfl (Nat.le_of_ble_eq_true rfl) rfl ?_
        refine g_iload_n 3 79 dX9_row_78 rfl rfl ?_
        refine g_iload 0 81 dX9_row_79 rfl rfl ?_
        refine g_if_eq 88 84 dX9_row_81 rfl rfl (fun q => absurd q (by decide)) (fun _ => ?_)
        refine g_iconst (1) 85 dX9_row_84 rfl rfl ?_
        refine g_goto 89 dX9_row_85 rfl ?_
        refine g_iadd 90 dX9_row_89 rfl ?_
        refine g_istore_n 91 [(2, .int ((x2 + 1))), (4, .int (1)), (0, .ref a0), (1, .int (x1)), (3, .int (x3))] dX9_row_90 rfl (Nat.le_of_ble_eq_true rfl) rfl ?_
        refine g_aload_n 2 92 dX9_row_91 rfl rfl ?_
        refine g_dup 93 dX9_row_92 rfl rfl ?_
        refine g_getI 96 dX9_row_93 rfl flX9_160 (Sm.k j2 s0.1) ?_
        refine g_iload 1 98 dX9_row_96 rfl rfl ?_
        refine g_if_eq 105 101 dX9_row_98 rfl rfl (fun q => absurd q (by decide)) (fun _ => ?_)
        refine g_iconst (0) 102 dX9_row_101 rfl rfl ?_
        refine g_goto 106 dX9_row_102 rfl ?_
        refine g_iadd 107 dX9_row_106 rfl ?_
        refine g_putI 110 dX9_row_107 rfl flX9_160 (Sm.k j2 s0.1) ?_
        generalize hM4 : (g_wi M2 a0 6 ((g_mi M2 a0 6) + 0)) = M4
        have j4 : Sm M M4 := by rw [← hM4]; exact (Sm.wi j2)
        replace H := H M4 hM4.symm
        refine g_iinc _ 4 113 [(3, .int ((x3 + 2))), (2, .int ((x2 + 1))), (4, .int (1)), (0, .ref a0), (1, .int (x1))] dX9_row_110 rfl rfl rfl (Nat.le_of_ble_eq_true rfl) rfl ?_
        refine g_goto 32 dX9_row_113 rfl ?_
        exact g_sub [3, 4, 1, 0] _ rfl (ih M4 a0 x1 (x2 + 1) (x3 + 2) (Mo.sm j4 s0) H (fun v M1 j r => hR v M1 (Sm.tr j4 j) r))
set_option maxRecDepth 10000 in
theorem uX9_row {N K : Nat} {X : gX} {d mc ms : Nat} {Q : Option Value → gM → Prop} {M : gM} {a0 : Nat} {R : Int32 → gM → Prop} (s0 : Mo M a0) (H : pX9_row N K M a0 R) (hR : ∀ (v : Int32) (M1 : gM), Sm M M1 → R v M1 → Q (some (.int v)) M1) : Cn X (d + K + 10) mc ms kX9_row [.ref a0] M Q := by
  have ih := ulX9_row (X := X) (d := d) (mc := mc) (ms := ms) (Q := Q) (N := N) (K := K) (R := R) N
  unfold pX9_row pX9_row_0 at H
  refine g_meth rfl rfl (Nat.le_of_ble_eq_true rfl) rfl ?_
  refine g_aload_n 0 1 dX9_row_0 rfl rfl ?_
  refine g_getI 4 dX9_row_1 rfl flX9_157 s0.1 ?_
  refine g_istore_n 5 [(1, .int ((g_mi M a0 13))), (0, .ref a0)] dX9_row_4 rfl (Nat.le_of_ble_eq_true rfl) rfl ?_
  refine g_aload_n 1 6 dX9_row_5 rfl rfl ?_
  refine g_iconst (0) 7 dX9_row_6 rfl rfl ?_
  refine g_putI 10 dX9_row_7 rfl flX9_157 s0.1 ?_
  generalize hM1 : (g_wi M a0 13 0) = M1
  have j1 : Sm M M1 := by rw [← hM1]; exact (Sm.wi Sm.rf)
  replace H := H M1 hM1.symm
  refine g_iload_n 0 11 dX9_row_10 rfl rfl ?_
  refine g_if_ne 21 14 dX9_row_11 rfl rfl (fun c1 => ?_) (fun c1 => ?_)
  · skip
    replace H := H.1 c1
    refine g_iconst (0) 22 dX9_row_21 rfl rfl ?_
    refine g_istore_n 23 [(2, .int (0)), (1, .int ((g_mi M a0 13))), (0, .ref a0)] dX9_row_22 rfl (Nat.le_of_ble_eq_true rfl) rfl ?_
    refine g_aload_n 2 24 dX9_row_23 rfl rfl ?_
    refine g_iload_n 1 25 dX9_row_24 rfl rfl ?_
    refine g_iconst (2) 26 dX9_row_25 rfl rfl ?_
    refine h_irem 27 dX9_row_26 rfl (by decide) ?_
    refine g_putI 30 dX9_row_27 rfl flX9_160 (Sm.k j1 s0.1) ?_
    generalize hM2 : (g_wi M1 a0 6 (i_rm (g_mi M a0 13) 2)) = M2
    have j2 : Sm M M2 := by rw [← hM2]; exact (Sm.wi j1)
    replace H := H M2 hM2.symm
    refine g_iconst (0) 31 dX9_row_30 rfl rfl ?_
    refine g_istore_n 32 [(3, .int (0)), (2, .int (0)), (1, .int ((g_mi M a0 13))), (0, .ref a0)] dX9_row_31 rfl (Nat.le_of_ble_eq_true rfl) rfl ?_
    exact g_sub [3, 2, 1, 0] _ rfl (ih M2 a0 (g_mi M a0 13) 0 0 (Mo.sm j2 s0) H (fun v M1 j r => hR v M1 (Sm.tr j2 j) r))
  · skip
    replace H := H.2 c1
    refine g_aload_n 1 15 dX9_row_14 rfl rfl ?_
    refine g_bipush ((-6)) 17 dX9_row_15 rfl rfl ?_
    refine g_callV (mc1 := 0) (ms1 := 0) (b := a0) (rest := []) (av := [.int ((-6))]) kX9_refuses 20 dX9_row_17 rfl rfl mbX9_103 imX9_refuses seX9_refuses gcl9.1 (Sm.k j1 s0.1) (Nat.le_of_ble_eq_true rfl) (Nat.zero_le _) (Nat.zero_le _) (uX9_refuses (N := N) (K := K) (Mo.sm j1 s0) H (fun v1 M3 jj H => ?_))
    have j3 : Sm M M3 := Sm.tr j1 jj
    show Go X (d + K + 10) mc ms kX9_row Q 20 [(1, .int ((g_mi M a0 13))), (0, .ref a0)] [.int (v1)] M3 0 0
    exact g_iret dX9_row_20 rfl (Nat.zero_le _) (Nat.zero_le _) (hR _ _ j3 H)
/-! X9_orders -/
def pX9_orders_0 (N K : Nat) (kp : Nat → gM → Nat → Int32 → Int32 → Int32 → Int32 → Prop) (R : Int32 → gM → Prop) (M : gM) (a0 : Nat) : Prop := ∀ M1 : gM, M1 = (g_wi M a0 40 (-1)) → pX9_readsAs N K M1 a0 1 (fun v1 M2 => ((¬ v1 = 0 → pX9_laysAside N K M2 a0 1 (fun M3 => kp 0 M3 a0 0 0 0 0)) ∧ (v1 = 0 → pX9_refuses N K M2 a0 (-6) (fun v2 M4 => R v2 M4))))
def pX9_orders_27 (N K : Nat) (kp : Nat → gM → Nat → Int32 → Int32 → Int32 → Int32 → Prop) (R : Int32 → gM → Prop) (M : gM) (a0 : Nat) (x1 : Int32) : Prop := ((3024 ≤ x1 → pX9_lays N K M a0 6 (fun M1 => ∀ M2 : gM, M2 = (g_wi M1 a0 27 0) → ∀ M3 : gM, M3 = (g_wi M2 a0 28 (-1)) → ∀ M4 : gM, M4 = (g_wi M3 a0 41 2400) → kp 1 M4 a0 (g_mi M a0 38) ((g_mi M4 a0 41) + (g_mi M4 (a0 + 2) 211)) 0 0)) ∧ (¬ 3024 ≤ x1 → (vp_in (x1) 3024) ∧ ∀ M5 : gM, M5 = (g_wi M (a0 + 20) (x1).toNatClampNeg (g_mi M (a0 + 19) (x1).toNatClampNeg)) → kp 0 M5 a0 (x1 + 1) 0 0 0))
def pX9_orders_96 (N K : Nat) (kp : Nat → gM → Nat → Int32 → Int32 → Int32 → Int32 → Prop) (R : Int32 → gM → Prop) (M : gM) (a0 : Nat) (x1 : Int32) (x2 : Int32) (x3 : Int32) : Prop := ((x2 ≤ (g_mi M a0 41) → pX9_good0 N K M a0 (g_mi M a0 27) (fun v1 M1 => R v1 M1)) ∧ (¬ x2 ≤ (g_mi M a0 41) → pX9_runs N K M a0 x2 (fun v2 M2 => ((v2 = 0 → pX9_takesBack N K M2 a0 1 (fun M3 => kp 2 M3 a0 x1 0 x3 0)) ∧ (¬ v2 = 0 → kp 1 M2 a0 x1 x2 (x3 + 1) 0)))))
def pX9_orders_123 (N K : Nat) (kp : Nat → gM → Nat → Int32 → Int32 → Int32 → Int32 → Prop) (R : Int32 → gM → Prop) (M : gM) (a0 : Nat) (x1 : Int32) (x3 : Int32) (x4 : Int32) : Prop := ((3024 ≤ x4 → ∀ M1 : gM, M1 = (g_wi M a0 38 x1) → ∀ M2 : gM, M2 = (g_wi M1 a0 40 x3) → pX9_refuses N K M2 a0 (-3) (fun v1 M3 => R v1 M3)) ∧ (¬ 3024 ≤ x4 → (vp_in (x4) 3024) ∧ ∀ M4 : gM, M4 = (g_wi M (a0 + 19) (x4).toNatClampNeg (g_mi M (a0 + 20) (x4).toNatClampNeg)) → kp 2 M4 a0 x1 0 x3 (x4 + 1)))
def qX9_orders (N K : Nat) (R : Int32 → gM → Prop) : Nat → Nat → gM → Nat → Int32 → Int32 → Int32 → Int32 → Prop
  | 0, _, _, _, _, _, _, _ => False
  | n + 1, h, M, a0, x1, x2, x3, x4 => if h = 0 then pX9_orders_27 N K (qX9_orders N K R n) R M a0 x1 else if h = 1 then pX9_orders_96 N K (qX9_orders N K R n) R M a0 x1 x2 x3 else pX9_orders_123 N K (qX9_orders N K R n) R M a0 x1 x3 x4
def pX9_orders (N K : Nat) (M : gM) (a0 : Nat) (R : Int32 → gM → Prop) : Prop := pX9_orders_0 N K (qX9_orders N K R N) R M a0
def ULX9_orders (X : gX) (d mc ms : Nat) (Q : Option Value → gM → Prop) (N K : Nat) (R : Int32 → gM → Prop) (n : Nat) : Prop := (∀ (M : gM) (a0 : Nat) (x1 : Int32) (x2 : Int32) (x3 : Int32) (x4 : Int32), Mo M a0 → qX9_orders N K R n 0 M a0 x1 x2 x3 x4 → (∀ (v : Int32) (M1 : gM), Sl M M1 → R v M1 → Q (some (.int v)) M1) → Go X (d + K + 14) mc ms kX9_orders Q 27 [(0, .ref a0), (1, .int (x1))] [] M 0 0) ∧ (∀ (M : gM) (a0 : Nat) (x1 : Int32) (x2 : Int32) (x3 : Int32) (x4 : Int32), Mo M a0 → qX9_orders N K R n 1 M a0 x1 x2 x3 x4 → (∀ (v : Int32) (M1 : gM), Sl M M1 → R v M1 → Q (some (.int v)) M1) → Go X (d + K + 14) mc ms kX9_orders Q 96 [(0, .ref a0), (1, .int (x1)), (2, .int (x2)), (3, .int (x3))] [] M 0 0) ∧ (∀ (M : gM) (a0 : Nat) (x1 : Int32) (x2 : Int32) (x3 : Int32) (x4 : Int32), Mo M a0 → qX9_orders N K R n 2 M a0 x1 x2 x3 x4 → (∀ (v : Int32) (M1 : gM), Sl M M1 → R v M1 → Q (some (.int v)) M1) → Go X (d + K + 14) mc ms kX9_orders Q 123 [(0, .ref a0), (1, .int (x1)), (3, .int (x3)), (4, .int (x4))] [] M 0 0)
set_option maxRecDepth 10000 in
theorem ulX9_orders {X : gX} {d mc ms : Nat} {Q : Option Value → gM → Prop} {N K : Nat} {R : Int32 → gM → Prop} : ∀ n : Nat, ULX9_orders X d mc ms Q N K R n := by
  intro n
  induction n with
  | zero => exact ⟨fun _ _ _ _ _ _ _ h _ => h.elim, fun _ _ _ _ _ _ _ h _ => h.elim, fun _ _ _ _ _ _ _ h _ => h.elim⟩
  | succ n ih =>
    refine ⟨?_, ?_, ?_⟩
    · intro M a0 x1 x2 x3 x4 s0 H hR
      rw [qX9_orders, if_pos (show (0 : Nat) = 0 from rfl)] at H
      unfold pX9_orders_27 at H
      refine g_iload_n 1 28 dX9_orders_27 rfl rfl ?_
      refine g_sipush (3024) 31 dX9_orders_28 rfl rfl ?_
      refine g_icmp_ge 52 34 dX9_orders_31 rfl rfl (fun c1 => ?_) (fun c1 => ?_)
      · skip
        replace H := H.1 c1
        refine g_aload_n 0 53 dX9_orders_52 rfl rfl ?_
        refine g_getI 56 dX9_orders_53 rfl flX9_11 s0.1 ?_
        refine g_istore_n 57 [(1, .int ((g_mi M a0 38))), (0, .ref a0)] dX9_orders_56 rfl (Nat.le_of_ble_eq_true rfl) rfl ?_
        refine g_aload_n 1 58 dX9_orders_57 rfl rfl ?_
        refine g_bipush (6) 60 dX9_orders_58 rfl rfl ?_
        refine g_callV (mc1 := 0) (ms1 := 0) (b := a0) (rest := []) (av := [.int (6)]) kX9_lays 63 dX9_orders_60 rfl rfl mbX9_260 imX9_lays seX9_lays gcl9.1 s0.1 (Nat.le_of_ble_eq_true rfl) (Nat.zero_le _) (Nat.zero_le _) (uX9_lays (N := N) (K := K) s0 H (fun M1 jj H => ?_))
        have j1 : Sm M M1 := jj
        show Go X (d + K + 14) mc ms kX9_orders Q 63 [(1, .int ((g_mi M a0 38))), (0, .ref a0)] [] M1 0 0
        refine g_aload_n 1 64 dX9_orders_63 rfl rfl ?_
        refine g_iconst (0) 65 dX9_orders_64 rfl rfl ?_
        refine g_putI 68 dX9_orders_65 rfl flX9_305 (Sm.k j1 s0.1) ?_
        generalize hM2 : (g_wi M1 a0 27 0) = M2
        have j2 : Sm M M2 := by rw [← hM2]; exact (Sm.wi j1)
        replace H := H M2 hM2.symm
        refine g_aload_n 1 69 dX9_orders_68 rfl rfl ?_
        refine g_iconst ((-1)) 70 dX9_orders_69 rfl rfl ?_
        refine g_putI 73 dX9_orders_70 rfl flX9_308 (Sm.k j2 s0.1) ?_
        generalize hM3 : (g_wi M2 a0 28 (-1)) = M3
        have j3 : Sm M M3 := by rw [← hM3]; exact (Sm.wi j2)
        replace H := H M3 hM3.symm
        refine g_aload_n 1 74 dX9_orders_73 rfl rfl ?_
        refine g_sipush (2400) 77 dX9_orders_74 rfl rfl ?_
        refine g_putI 80 dX9_orders_77 rfl flX9_440 (Sm.k j3 s0.1) ?_
        generalize hM4 : (g_wi M3 a0 41 2400) = M4
        have j4 : Sm M M4 := by rw [← hM4]; exact (Sm.wi j3)
        replace H := H M4 hM4.symm
        refine g_aload_n 1 81 dX9_orders_80 rfl rfl ?_
        refine g_getI 84 dX9_orders_81 rfl flX9_440 (Sm.k j4 s0.1) ?_
        refine g_aload_n 1 85 dX9_orders_84 rfl rfl ?_
        refine g_getR 88 (a0 + 2) dX9_orders_85 rfl flX9_28 (Sm.k j4 s0.1) (Sm.r j4 s0.2.2.2.1) ?_
        refine g_sipush (211) 91 dX9_orders_88 rfl rfl ?_
        refine h_iaload 92 211 dX9_orders_91 rfl rfl (Sm.k j4 s0.2.2.2.2.1) (vp_lit rfl) ?_
        refine g_iadd 93 dX9_orders_92 rfl ?_
        refine g_istore_n 94 [(2, .int (((g_mi M4 a0 41) + (g_mi M4 (a0 + 2) 211)))), (1, .int ((g_mi M a0 38))), (0, .ref a0)] dX9_orders_93 rfl (Nat.le_of_ble_eq_true rfl) rfl ?_
        refine g_iconst (0) 95 dX9_orders_94 rfl rfl ?_
        refine g_istore_n 96 [(3, .int (0)), (2, .int (((g_mi M4 a0 41) + (g_mi M4 (a0 + 2) 211)))), (1, .int ((g_mi M a0 38))), (0, .ref a0)] dX9_orders_95 rfl (Nat.le_of_ble_eq_true rfl) rfl ?_
        exact g_sub [3, 2, 1, 0] _ rfl (ih.2.1 M4 a0 (g_mi M a0 38) ((g_mi M4 a0 41) + (g_mi M4 (a0 + 2) 211)) 0 0 (Mo.sm j4 s0) H (fun v M1 j r => hR v M1 (Sl.tr (Sm.l j4) j) r))
      · skip
        replace H := H.2 c1
        refine g_aload_n 0 35 dX9_orders_34 rfl rfl ?_
        refine g_getR 38 (a0 + 20) dX9_orders_35 rfl flX9_87 s0.1 s0.2.2.2.2.2.2.2.2.2.2.2.2.2.2.2.2.2.2.2.2.2.2.2.2.2.2.2.2.2.2.2.2.2.2.2.2.2.2.2.1 ?_
        refine g_iload_n 1 39 dX9_orders_38 rfl rfl ?_
        refine g_aload_n 0 40 dX9_orders_39 rfl rfl ?_
        refine g_getR 43 (a0 + 19) dX9_orders_40 rfl flX9_84 s0.1 s0.2.2.2.2.2.2.2.2.2.2.2.2.2.2.2.2.2.2.2.2.2.2.2.2.2.2.2.2.2.2.2.2.2.2.2.2.2.1 ?_
        refine g_iload_n 1 44 dX9_orders_43 rfl rfl ?_
        obtain ⟨b1, H⟩ := H
        refine h_iaload 45 (x1).toNatClampNeg dX9_orders_44 rfl rfl s0.2.2.2.2.2.2.2.2.2.2.2.2.2.2.2.2.2.2.2.2.2.2.2.2.2.2.2.2.2.2.2.2.2.2.2.2.2.2.1 b1 ?_
        refine h_iastore 46 (x1).toNatClampNeg dX9_orders_45 rfl rfl s0.2.2.2.2.2.2.2.2.2.2.2.2.2.2.2.2.2.2.2.2.2.2.2.2.2.2.2.2.2.2.2.2.2.2.2.2.2.2.2.2.1 b1 ?_
        generalize hM5 : (g_wi M (a0 + 20) (x1).toNatClampNeg (g_mi M (a0 + 19) (x1).toNatClampNeg)) = M5
        have j5 : Sm M M5 := by rw [← hM5]; exact (Sm.wi Sm.rf)
        replace H := H M5 hM5.symm
        refine g_iinc _ 1 49 [(1, .int ((x1 + 1))), (0, .ref a0)] dX9_orders_46 rfl rfl rfl (Nat.le_of_ble_eq_true rfl) rfl ?_
        refine g_goto 27 dX9_orders_49 rfl ?_
        exact g_sub [1, 0] _ rfl (ih.1 M5 a0 (x1 + 1) 0 0 0 (Mo.sm j5 s0) H (fun v M1 j r => hR v M1 (Sl.tr (Sm.l j5) j) r))
    · intro M a0 x1 x2 x3 x4 s0 H hR
      rw [qX9_orders, if_neg (show ¬ (1 : Nat) = 0 by decide), if_pos (show (1 : Nat) = 1 from rfl)] at H
      unfold pX9_orders_96 at H
      refine g_aload_n 0 97 dX9_orders_96 rfl rfl ?_
      refine g_getI 100 dX9_orders_97 rfl flX9_440 s0.1 ?_
      refine g_iload_n 2 101 dX9_orders_100 rfl rfl ?_
      refine g_icmp_ge 174 104 dX9_orders_101 rfl rfl (fun c1 => ?_) (fun c1 => ?_)
      · skip
        replace H := H.1 c1
        refine g_aload_n 0 175 dX9_orders_174 rfl rfl ?_
        refine g_aload_n 0 176 dX9_orders_175 rfl rfl ?_
        refine g_getI 179 dX9_orders_176 rfl flX9_305 s0.1 ?_
        refine g_callV (mc1 := 0) (ms1 := 0) (b := a0) (rest := []) (av := [.int ((g_mi M a0 27))]) kX9_good0 182 dX9_orders_179 rfl rfl mbX9_14 imX9_good0 seX9_good0 gcl9.1 s0.1 (Nat.le_of_ble_eq_true rfl) (Nat.zero_le _) (Nat.zero_le _) (uX9_good0 (N := N) (K := K) s0 H (fun v1 M1 jj H => ?_))
        have j1 : Sm M M1 := jj
        show Go X (d + K + 14) mc ms kX9_orders Q 182 [(0, .ref a0), (1, .int (x1)), (2, .int (x2)), (3, .int (x3))] [.int (v1)] M1 0 0
        exact g_iret dX9_orders_182 rfl (Nat.zero_le _) (Nat.zero_le _) (hR _ _ (Sm.l j1) H)
      · skip
        replace H := H.2 c1
        refine g_aload_n 0 105 dX9_orders_104 rfl rfl ?_
        refine g_iload_n 2 106 dX9_orders_105 rfl rfl ?_
        refine g_callV (mc1 := 0) (ms1 := 0) (b := a0) (rest := []) (av := [.int (x2)]) kX9_runs 109 dX9_orders_106 rfl rfl mbX9_443 imX9_runs seX9_runs gcl9.1 s0.1 (Nat.le_of_ble_eq_true rfl) (Nat.zero_le _) (Nat.zero_le _) (uX9_runs (N := N) (K := K) s0 H (fun v2 M2 jj H => ?_))
        have j2 : Sl M M2 := jj
        show Go X (d + K + 14) mc ms kX9_orders Q 109 [(0, .ref a0), (1, .int (x1)), (2, .int (x2)), (3, .int (x3))] [.int (v2)] M2 0 0
        refine g_if_eq 115 112 dX9_orders_109 rfl rfl (fun c2 => ?_) (fun c2 => ?_)
        · skip
          replace H := H.1 c2
          refine g_aload_n 0 116 dX9_orders_115 rfl rfl ?_
          refine g_iconst (1) 117 dX9_orders_116 rfl rfl ?_
          refine g_callV (mc1 := 0) (ms1 := 0) (b := a0) (rest := []) (av := [.int (1)]) kX9_takesBack 120 dX9_orders_117 rfl rfl mbX9_446 imX9_takesBack seX9_takesBack gcl9.1 (Sl.k j2 s0.1) (Nat.le_of_ble_eq_true rfl) (Nat.zero_le _) (Nat.zero_le _) (uX9_takesBack (N := N) (K := K) (Mo.sl j2 s0) H (fun M3 jj H => ?_))
          have j3 : Sl M M3 := Sl.tr j2 (Sm.l jj)
          show Go X (d + K + 14) mc ms kX9_orders Q 120 [(0, .ref a0), (1, .int (x1)), (2, .int (x2)), (3, .int (x3))] [] M3 0 0
          refine g_iconst (0) 121 dX9_orders_120 rfl rfl ?_
          refine g_istore 123 [(4, .int (0)), (0, .ref a0), (1, .int (x1)), (2, .int (x2)), (3, .int (x3))] dX9_orders_121 rfl (Nat.le_of_ble_eq_true rfl) rfl ?_
          exact g_sub [1, 2, 4, 0] _ rfl (ih.2.2 M3 a0 x1 0 x3 0 (Mo.sl j3 s0) H (fun v M1 j r => hR v M1 (Sl.tr j3 j) r))
        · skip
          replace H := H.2 c2
          refine g_goto 168 dX9_orders_112 rfl ?_
          refine g_iinc _ 3 171 [(3, .int ((x3 + 1))), (0, .ref a0), (1, .int (x1)), (2, .int (x2))] dX9_orders_168 rfl rfl rfl (Nat.le_of_ble_eq_true rfl) rfl ?_
          refine g_goto 96 dX9_orders_171 rfl ?_
          exact g_sub [1, 2, 3, 0] _ rfl (ih.2.1 M2 a0 x1 x2 (x3 + 1) 0 (Mo.sl j2 s0) H (fun v M1 j r => hR v M1 (Sl.tr j2 j) r))
    · intro M a0 x1 x2 x3 x4 s0 H hR
      rw [qX9_orders, if_neg (show ¬ (2 : Nat) = 0 by decide), if_neg (show ¬ (2 : Nat) = 1 by decide)] at H
      unfold pX9_orders_123 at H
      refine g_iload 3 125 dX9_orders_123 rfl rfl ?_
      refine g_sipush (3024) 128 dX9_orders_125 rfl rfl ?_
      refine g_icmp_ge 151 131 dX9_orders_128 rfl rfl (fun c1 => ?_) (fun c1 => ?_)
      · skip
        replace H := H.1 c1
        refine g_aload_n 0 152 dX9_orders_151 rfl rfl ?_
        refine g_iload_n 1 153 dX9_orders_152 rfl rfl ?_
        refine g_putI 156 dX9_orders_153 rfl flX9_11 s0.1 ?_
        generalize hM1 : (g_wi M a0 38 x1) = M1
        have j1 : Sm M M1 := by rw [← hM1]; exact (Sm.wi Sm.rf)
        replace H := H M1 hM1.symm
        refine g_aload_n 0 157 dX9_orders_156 rfl rfl ?_
        refine g_iload_n 2 158 dX9_orders_157 rfl rfl ?_
        refine g_putI 161 dX9_orders_158 rfl flX9_94 (Sm.k j1 s0.1) ?_
        generalize hM2 : (g_wi M1 a0 40 x3) = M2
        have j2 : Sm M M2 := by rw [← hM2]; exact (Sm.wi j1)
        replace H := H M2 hM2.symm
        refine g_aload_n 0 162 dX9_orders_161 rfl rfl ?_
        refine g_bipush ((-3)) 164 dX9_orders_162 rfl rfl ?_
        refine g_callV (mc1 := 0) (ms1 := 0) (b := a0) (rest := []) (av := [.int ((-3))]) kX9_refuses 167 dX9_orders_164 rfl rfl mbX9_103 imX9_refuses seX9_refuses gcl9.1 (Sm.k j2 s0.1) (Nat.le_of_ble_eq_true rfl) (Nat.zero_le _) (Nat.zero_le _) (uX9_refuses (N := N) (K := K) (Mo.sm j2 s0) H (fun v1 M3 jj H => ?_))
        have j3 : Sm M M3 := Sm.tr j2 jj
        show Go X (d + K + 14) mc ms kX9_orders Q 167 [(0, .ref a0), (1, .int (x1)), (3, .int (x3)), (4, .int (x4))] [.int (v1)] M3 0 0
        exact g_iret dX9_orders_167 rfl (Nat.zero_le _) (Nat.zero_le _) (hR _ _ (Sm.l j3) H)
      · skip
        replace H := H.2 c1
        refine g_aload_n 0 132 dX9_orders_131 rfl rfl ?_
        refine g_getR 135 (a0 + 19) dX9_orders_132 rfl flX9_84 s0.1 s0.2.2.2.2.2.2.2.2.2.2.2.2.2.2.2.2.2.2.2.2.2.2.2.2.2.2.2.2.2.2.2.2.2.2.2.2.2.1 ?_
        refine g_iload 3 137 dX9_orders_135 rfl rfl ?_
        refine g_aload_n 0 138 dX9_orders_137 rfl rfl ?_
        refine g_getR 141 (a0 + 20) dX9_orders_138 rfl flX9_87 s0.1 s0.2.2.2.2.2.2.2.2.2.2.2.2.2.2.2.2.2.2.2.2.2.2.2.2.2.2.2.2.2.2.2.2.2.2.2.2.2.2.2.1 ?_
        refine g_iload 3 143 dX9_orders_141 rfl rfl ?_
        obtain ⟨b1, H⟩ := H
        refine h_iaload 144 (x4).toNatClampNeg dX9_orders_143 rfl rfl s0.2.2.2.2.2.2.2.2.2.2.2.2.2.2.2.2.2.2.2.2.2.2.2.2.2.2.2.2.2.2.2.2.2.2.2.2.2.2.2.2.1 b1 ?_
        refine h_iastore 145 (x4).toNatClampNeg dX9_orders_144 rfl rfl s0.2.2.2.2.2.2.2.2.2.2.2.2.2.2.2.2.2.2.2.2.2.2.2.2.2.2.2.2.2.2.2.2.2.2.2.2.2.2.1 b1 ?_
        generalize hM4 : (g_wi M (a0 + 19) (x4).toNatClampNeg (g_mi M (a0 + 20) (x4).toNatClampNeg)) = M4
        have j4 : Sm M M4 := by rw [← hM4]; exact (Sm.wi Sm.rf)
        replace H := H M4 hM4.symm
        refine g_iinc _ 3 148 [(4, .int ((x4 + 1))), (0, .ref a0), (1, .int (x1)), (3, .int (x3))] dX9_orders_145 rfl rfl rfl (Nat.le_of_ble_eq_true rfl) rfl ?_
        refine g_goto 123 dX9_orders_148 rfl ?_
        exact g_sub [1, 2, 3, 0] _ rfl (ih.2.2 M4 a0 x1 0 x3 (x4 + 1) (Mo.sm j4 s0) H (fun v M1 j r => hR v M1 (Sl.tr (Sm.l j4) j) r))
set_option maxRecDepth 10000 in
theorem uX9_orders {N K : Nat} {X : gX} {d mc ms : Nat} {Q : Option Value → gM → Prop} {M : gM} {a0 : Nat} {R : Int32 → gM → Prop} (s0 : Mo M a0) (H : pX9_orders N K M a0 R) (hR : ∀ (v : Int32) (M1 : gM), Sl M M1 → R v M1 → Q (some (.int v)) M1) : Cn X (d + K + 14) mc ms kX9_orders [.ref a0] M Q := by
  have ih := ulX9_orders (X := X) (d := d) (mc := mc) (ms := ms) (Q := Q) (N := N) (K := K) (R := R) N
  unfold pX9_orders pX9_orders_0 at H
  refine g_meth rfl rfl (Nat.le_of_ble_eq_true rfl) rfl ?_
  refine g_aload_n 0 1 dX9_orders_0 rfl rfl ?_
  refine g_iconst ((-1)) 2 dX9_orders_1 rfl rfl ?_
  refine g_putI 5 dX9_orders_2 rfl flX9_94 s0.1 ?_
  generalize hM1 : (g_wi M a0 40 (-1)) = M1
  have j1 : Sm M M1 := by rw [← hM1]; exact (Sm.wi Sm.rf)
  replace H := H M1 hM1.symm
  refine g_aload_n 0 6 dX9_orders_5 rfl rfl ?_
  refine g_iconst (1) 7 dX9_orders_6 rfl rfl ?_
  refine g_callV (mc1 := 0) (ms1 := 0) (b := a0) (rest := []) (av := [.int (1)]) kX9_readsAs 10 dX9_orders_7 rfl rfl mbX9_256 imX9_readsAs seX9_readsAs gcl9.1 (Sm.k j1 s0.1) (Nat.le_of_ble_eq_true rfl) (Nat.zero_le _) (Nat.zero_le _) (Cn.cd (show d + 5 + K + 8 = d + K + 13 by omega) (uX9_readsAs (d := d + 5) (N := N) (K := K) (Mo.sm j1 s0) H (fun v1 M2 jj H => ?_)))
  have j2 : Sm M M2 := Sm.tr j1 jj
  show Go X (d + K + 14) mc ms kX9_orders Q 10 [(0, .ref a0)] [.int (v1)] M2 0 0
  refine g_if_ne 20 13 dX9_orders_10 rfl rfl (fun c1 => ?_) (fun c1 => ?_)
  · skip
    replace H := H.1 c1
    refine g_aload_n 0 21 dX9_orders_20 rfl rfl ?_
    refine g_iconst (1) 22 dX9_orders_21 rfl rfl ?_
    refine g_callV (mc1 := 0) (ms1 := 0) (b := a0) (rest := []) (av := [.int (1)]) kX9_laysAside 25 dX9_orders_22 rfl rfl mbX9_365 imX9_laysAside seX9_laysAside gcl9.1 (Sm.k j2 s0.1) (Nat.le_of_ble_eq_true rfl) (Nat.zero_le _) (Nat.zero_le _) (uX9_laysAside (N := N) (K := K) (Mo.sm j2 s0) H (fun M3 jj H => ?_))
    have j3 : Sm M M3 := Sm.tr j2 jj
    show Go X (d + K + 14) mc ms kX9_orders Q 25 [(0, .ref a0)] [] M3 0 0
    refine g_iconst (0) 26 dX9_orders_25 rfl rfl ?_
    refine g_istore_n 27 [(1, .int (0)), (0, .ref a0)] dX9_orders_26 rfl (Nat.le_of_ble_eq_true rfl) rfl ?_
    exact g_sub [1, 0] _ rfl (ih.1 M3 a0 0 0 0 0 (Mo.sm j3 s0) H (fun v M1 j r => hR v M1 (Sl.tr (Sm.l j3) j) r))
  · skip
    replace H := H.2 c1
    refine g_aload_n 0 14 dX9_orders_13 rfl rfl ?_
    refine g_bipush ((-6)) 16 dX9_orders_14 rfl rfl ?_
    refine g_callV (mc1 := 0) (ms1 := 0) (b := a0) (rest := []) (av := [.int ((-6))]) kX9_refuses 19 dX9_orders_16 rfl rfl mbX9_103 imX9_refuses seX9_refuses gcl9.1 (Sm.k j2 s0.1) (Nat.le_of_ble_eq_true rfl) (Nat.zero_le _) (Nat.zero_le _) (uX9_refuses (N := N) (K := K) (Mo.sm j2 s0) H (fun v2 M4 jj H => ?_))
    have j4 : Sm M M4 := Sm.tr j2 jj
    show Go X (d + K + 14) mc ms kX9_orders Q 19 [(0, .ref a0)] [.int (v2)] M4 0 0
    exact g_iret dX9_orders_19 rfl (Nat.zero_le _) (Nat.zero_le _) (hR _ _ (Sm.l j4) H)
/-! X5_settle -/
def pX5_settle_0 (N K : Nat) (kp : Nat → gM → Nat → Int32 → Int32 → Nat → Nat → Int32 → Int32 → Int32 → Prop) (R : gM → Prop) (M : gM) (a0 : Nat) (x1 : Int32) (x2 : Int32) (a3 : Nat) (n3 : Nat) : Prop := kp 0 M a0 x1 x2 a3 n3 0 0 0
def pX5_settle_9 (N K : Nat) (kp : Nat → gM → Nat → Int32 → Int32 → Nat → Nat → Int32 → Int32 → Int32 → Prop) (R : gM → Prop) (M : gM) (a0 : Nat) (x1 : Int32) (x2 : Int32) (a3 : Nat) (n3 : Nat) (x4 : Int32) (x5 : Int32) (x6 : Int32) : Prop := ((3 ≤ x6 → (((g_mi M a0 5) ≤ 0 → R M) ∧ (¬ (g_mi M a0 5) ≤ 0 → (((g_mi M a0 4) ≤ 0 → R M) ∧ (¬ (g_mi M a0 4) ≤ 0 → (¬ ((g_mi M a0 5) : Int32) = 0) ∧ (EJ9_floorMod_7cf53 M ((x1 / (g_mi M a0 5)) - x4) 3) ∧ ∀ v1 : Int32, v1 = (fJ9_floorMod_7cf53 ((x1 / (g_mi M a0 5)) - x4) 3) → (vp_in (x1) 60) ∧ ∀ M1 : gM, M1 = (g_wi M (a0 + 2) (x1).toNatClampNeg v1) → (EJ9_floorMod_7cf53 M1 (x2 - x5) (g_mi M1 a0 4)) ∧ ∀ v2 : Int32, v2 = (fJ9_floorMod_7cf53 (x2 - x5) (g_mi M1 a0 4)) → (vp_in (x1) 60) ∧ ∀ M2 : gM, M2 = (g_wi M1 (a0 + 3) (x1).toNatClampNeg v2) → R M2))))) ∧ (¬ 3 ≤ x6 → (vp_in (((3 * x2) + x6)) n3) ∧ (((g_mi M a3 (((3 * x2) + x6)).toNatClampNeg) = x1 → kp 0 M a0 x1 x2 a3 n3 x4 x5 (x6 + 1)) ∧ (¬ (g_mi M a3 (((3 * x2) + x6)).toNatClampNeg) = x1 → (vp_in ((g_mi M a3 (((3 * x2) + x6)).toNatClampNeg)) 60) ∧ kp 0 M a0 x1 x2 a3 n3 (x4 + (g_mi M (a0 + 2) ((g_mi M a3 (((3 * x2) + x6)).toNatClampNeg)).toNatClampNeg)) (x5 + (g_mi M (a0 + 3) ((g_mi M a3 (((3 * x2) + x6)).toNatClampNeg)).toNatClampNeg)) (x6 + 1)))))
def qX5_settle (N K : Nat) (R : gM → Prop) : Nat → Nat → gM → Nat → Int32 → Int32 → Nat → Nat → Int32 → Int32 → Int32 → Prop
  | 0, _, _, _, _, _, _, _, _, _, _ => False
  | n + 1, _, M, a0, x1, x2, a3, n3, x4, x5, x6 => pX5_settle_9 N K (qX5_settle N K R n) R M a0 x1 x2 a3 n3 x4 x5 x6
def pX5_settle (N K : Nat) (M : gM) (a0 : Nat) (x1 : Int32) (x2 : Int32) (a3 : Nat) (n3 : Nat) (R : gM → Prop) : Prop := pX5_settle_0 N K (qX5_settle N K R N) R M a0 x1 x2 a3 n3
def ULX5_settle (X : gX) (d mc ms : Nat) (Q : Option Value → gM → Prop) (N K : Nat) (R : gM → Prop) (n : Nat) : Prop := (∀ (M : gM) (a0 : Nat) (x1 : Int32) (x2 : Int32) (a3 : Nat) (n3 : Nat) (x4 : Int32) (x5 : Int32) (x6 : Int32), Tb M a0 → g_kd M a3 = some (100, n3) → qX5_settle N K R n 0 M a0 x1 x2 a3 n3 x4 x5 x6 → (∀ (M1 : gM), Sm M M1 → R M1 → Q none M1) → Go X (d + 1) mc ms kX5_settle Q 9 [(0, .ref a0), (1, .int (x1)), (2, .int (x2)), (3, .ref a3), (4, .int (x4)), (5, .int (x5)), (6, .int (x6))] [] M 0 0)
set_option maxRecDepth 10000 in
theorem ulX5_settle {X : gX} {d mc ms : Nat} {Q : Option Value → gM → Prop} {N K : Nat} {R : gM → Prop} : ∀ n : Nat, ULX5_settle X d mc ms Q N K R n := by
  intro n
  induction n with
  | zero => exact fun _ _ _ _ _ _ _ _ _ _ _ h _ => h.elim
  | succ n ih =>
    intro M a0 x1 x2 a3 n3 x4 x5 x6 s0 s3 H hR
    rw [qX5_settle] at H
    unfold pX5_settle_9 at H
    refine g_iload 6 11 dX5_settle_9 rfl rfl ?_
    refine g_iconst (3) 12 dX5_settle_11 rfl rfl ?_
    refine g_icmp_ge 61 15 dX5_settle_12 rfl rfl (fun c1 => ?_) (fun c1 => ?_)
    · skip
      replace H := H.1 c1
      refine g_aload_n 0 62 dX5_settle_61 rfl rfl ?_
      refine g_getI 65 dX5_settle_62 rfl flX5_21 s0.1 ?_
      refine g_if_le 111 68 dX5_settle_65 rfl rfl (fun c2 => ?_) (fun c2 => ?_)
      · skip
        replace H := H.1 c2
        exact g_vret dX5_settle_111 rfl (Nat.zero_le _) (Nat.zero_le _) (hR _ Sm.rf H)
      · skip
        replace H := H.2 c2
        refine g_aload_n 0 69 dX5_settle_68 rfl rfl ?_
        refine g_getI 72 dX5_settle_69 rfl flX5_35 s0.1 ?_
        refine g_if_le 111 75 dX5_settle_72 rfl rfl (fun c3 => ?_) (fun c3 => ?_)
        · skip
          replace H := H.1 c3
          exact g_vret dX5_settle_111 rfl (Nat.zero_le _) (Nat.zero_le _) (hR _ Sm.rf H)
        · skip
          replace H := H.2 c3
          refine g_aload_n 0 76 dX5_settle_75 rfl rfl ?_
          refine g_getR 79 (a0 + 2) dX5_settle_76 rfl flX5_15 s0.1 s0.2.2.2.1 ?_
          refine g_iload_n 1 80 dX5_settle_79 rfl rfl ?_
          refine g_iload_n 1 81 dX5_settle_80 rfl rfl ?_
          refine g_aload_n 0 82 dX5_settle_81 rfl rfl ?_
          refine g_getI 85 dX5_settle_82 rfl flX5_21 s0.1 ?_
          obtain ⟨b1, H⟩ := H
          refine g_idiv 86 dX5_settle_85 rfl b1 ?_
          refine g_iload 4 88 dX5_settle_86 rfl rfl ?_
          refine g_isub 89 dX5_settle_88 rfl ?_
          refine g_iconst (3) 90 dX5_settle_89 rfl rfl ?_
          obtain ⟨b2, H⟩ := H
          refine g_callS (mc1 := 0) (ms1 := 0) (rest := [.int (x1), .ref (a0 + 2)]) (av := [.int (((x1 / (g_mi M a0 5)) - x4)), .int (3)]) kJ9_floorMod_7cf53 93 dX5_settle_90 rfl rfl mbX5_71 smJ9_floorMod_7cf53 (Nat.le_of_ble_eq_true rfl) (Nat.zero_le _) (Nat.zero_le _) (tJ9_floorMod_7cf53 b2 ?_)
          show Go X (d + 1) mc ms kX5_settle Q 93 [(0, .ref a0), (1, .int (x1)), (2, .int (x2)), (3, .ref a3), (4, .int (x4)), (5, .int (x5)), (6, .int (x6))] [.int ((fJ9_floorMod_7cf53 ((x1 / (g_mi M a0 5)) - x4) 3)), .int (x1), .ref (a0 + 2)] M 0 0
          generalize hv1 : (fJ9_floorMod_7cf53 ((x1 / (g_mi M a0 5)) - x4) 3) = v1
          replace H := H v1 hv1.symm
          obtain ⟨b3, H⟩ := H
          refine h_iastore 94 (x1).toNatClampNeg dX5_settle_93 rfl rfl s0.2.2.2.2.1 b3 ?_
          generalize hM1 : (g_wi M (a0 + 2) (x1).toNatClampNeg v1) = M1
          have j1 : Sm M M1 := by rw [← hM1]; exact (Sm.wi Sm.rf)
          replace H := H M1 hM1.symm
          refine g_aload_n 0 95 dX5_settle_94 rfl rfl ?_
          refine g_getR 98 (a0 + 3) dX5_settle_95 rfl flX5_18 (Sm.k j1 s0.1) (Sm.r j1 s0.2.2.2.2.2.1) ?_
          refine g_iload_n 1 99 dX5_settle_98 rfl rfl ?_
          refine g_iload_n 2 100 dX5_settle_99 rfl rfl ?_
          refine g_iload 5 102 dX5_settle_100 rfl rfl ?_
          refine g_isub 103 dX5_settle_102 rfl ?_
          refine g_aload_n 0 104 dX5_settle_103 rfl rfl ?_
          refine g_getI 107 dX5_settle_104 rfl flX5_35 (Sm.k j1 s0.1) ?_
          obtain ⟨b4, H⟩ := H
          refine g_callS (mc1 := 0) (ms1 := 0) (rest := [.int (x1), .ref (a0 + 3)]) (av := [.int ((x2 - x5)), .int ((g_mi M1 a0 4))]) kJ9_floorMod_7cf53 110 dX5_settle_107 rfl rfl mbX5_71 smJ9_floorMod_7cf53 (Nat.le_of_ble_eq_true rfl) (Nat.zero_le _) (Nat.zero_le _) (tJ9_floorMod_7cf53 b4 ?_)
          show Go X (d + 1) mc ms kX5_settle Q 110 [(0, .ref a0), (1, .int (x1)), (2, .int (x2)), (3, .ref a3), (4, .int (x4)), (5, .int (x5)), (6, .int (x6))] [.int ((fJ9_floorMod_7cf53 (x2 - x5) (g_mi M1 a0 4))), .int (x1), .ref (a0 + 3)] M1 0 0
          generalize hv2 : (fJ9_floorMod_7cf53 (x2 - x5) (g_mi M1 a0 4)) = v2
          replace H := H v2 hv2.symm
          obtain ⟨b5, H⟩ := H
          refine h_iastore 111 (x1).toNatClampNeg dX5_settle_110 rfl rfl (Sm.k j1 s0.2.2.2.2.2.2) b5 ?_
          generalize hM2 : (g_wi M1 (a0 + 3) (x1).toNatClampNeg v2) = M2
          have j2 : Sm M M2 := by rw [← hM2]; exact (Sm.wi j1)
          replace H := H M2 hM2.symm
          exact g_vret dX5_settle_111 rfl (Nat.zero_le _) (Nat.zero_le _) (hR _ j2 H)
    · skip
      replace H := H.2 c1
      refine g_aload_n 3 16 dX5_settle_15 rfl rfl ?_
      refine g_iconst (3) 17 dX5_settle_16 rfl rfl ?_
      refine g_iload_n 2 18 dX5_settle_17 rfl rfl ?_
      refine g_imul 19 dX5_settle_18 rfl ?_
      refine g_iload 6 21 dX5_settle_19 rfl rfl ?_
      refine g_iadd 22 dX5_settle_21 rfl ?_
      obtain ⟨b6, H⟩ := H
      refine h_iaload 23 (((3 * x2) + x6)).toNatClampNeg dX5_settle_22 rfl rfl s3 b6 ?_
      refine g_istore 25 [(7, .int ((g_mi M a3 (((3 * x2) + x6)).toNatClampNeg))), (0, .ref a0), (1, .int (x1)), (2, .int (x2)), (3, .ref a3), (4, .int (x4)), (5, .int (x5)), (6, .int (x6))] dX5_settle_23 rfl (Nat.le_of_ble_eq_true rfl) rfl ?_
      refine g_iload 0 27 dX5_settle_25 rfl rfl ?_
      refine g_iload_n 2 28 dX5_settle_27 rfl rfl ?_
      refine g_icmp_eq 55 31 dX5_settle_28 rfl rfl (fun c4 => ?_) (fun c4 => ?_)
      · skip
        replace H := H.1 c4
        refine g_iinc _ 7 58 [(6, .int ((x6 + 1))), (7, .int ((g_mi M a3 (((3 * x2) + x6)).toNatClampNeg))), (0, .ref a0), (1, .int (x1)), (2, .int (x2)), (3, .ref a3), (4, .int (x4)), (5, .int (x5))] dX5_settle_55 rfl rfl rfl (Nat.le_of_ble_eq_true rfl) rfl ?_
        refine g_goto 9 dX5_settle_58 rfl ?_
        exact g_sub [2, 3, 4, 5, 6, 7, 0] _ rfl (ih M a0 x1 x2 a3 n3 x4 x5 (x6 + 1) s0 s3 H (fun M1 j r => hR M1 j r))
      · skip
        replace H := H.2 c4
        refine g_iload 5 33 dX5_settle_31 rfl rfl ?_
        refine g_aload_n 1 34 dX5_settle_33 rfl rfl ?_
        refine g_getR 37 (a0 + 2) dX5_settle_34 rfl flX5_15 s0.1 s0.2.2.2.1 ?_
        refine g_iload 0 39 dX5_settle_37 rfl rfl ?_
        obtain ⟨b7, H⟩ := H
        refine h_iaload 40 ((g_mi M a3 (((3 * x2) + x6)).toNatClampNeg)).toNatClampNeg dX5_settle_39 rfl rfl s0.2.2.2.2.1 b7 ?_
        refine g_iadd 41 dX5_settle_40 rfl ?_
        refine g_istore 43 [(4, .int ((x4 + (g_mi M (a0 + 2) ((g_mi M a3 (((3 * x2) + x6)).toNatClampNeg)).toNatClampNeg)))), (7, .int ((g_mi M a3 (((3 * x2) + x6)).toNatClampNeg))), (0, .ref a0), (1, .int (x1)), (2, .int (x2)), (3, .ref a3), (5, .int (x5)), (6, .int (x6))] dX5_settle_41 rfl (Nat.le_of_ble_eq_true rfl) rfl ?_
        refine g_iload 6 45 dX5_settle_43 rfl rfl ?_
        refine g_aload_n 2 46 dX5_settle_45 rfl rfl ?_
        refine g_getR 49 (a0 + 3) dX5_settle_46 rfl flX5_18 s0.1 s0.2.2.2.2.2.1 ?_
        refine g_iload 1 51 dX5_settle_49 rfl rfl ?_
        refine h_iaload 52 ((g_mi M a3 (((3 * x2) + x6)).toNatClampNeg)).toNatClampNeg dX5_settle_51 rfl rfl s0.2.2.2.2.2.2 b7 ?_
        refine g_iadd 53 dX5_settle_52 rfl ?_
        refine g_istore 55 [(5, .int ((x5 + (g_mi M (a0 + 3) ((g_mi M a3 (((3 * x2) + x6)).toNatClampNeg)).toNatClampNeg)))), (4, .int ((x4 + (g_mi M (a0 + 2) ((g_mi M a3 (((3 * x2) + x6)).toNatClampNeg)).toNatClampNeg)))), (7, .int ((g_mi M a3 (((3 * x2) + x6)).toNatClampNeg))), (0, .ref a0), (1, .int (x1)), (2, .int (x2)), (3, .ref a3), (6, .int (x6))] dX5_settle_53 rfl (Nat.le_of_ble_eq_true rfl) rfl ?_
        refine g_iinc _ 7 58 [(6, .int ((x6 + 1))), (5, .int ((x5 + (g_mi M (a0 + 3) ((g_mi M a3 (((3 * x2) + x6)).toNatClampNeg)).toNatClampNeg)))), (4, .int ((x4 + (g_mi M (a0 + 2) ((g_mi M a3 (((3 * x2) + x6)).toNatClampNeg)).toNatClampNeg)))), (7, .int ((g_mi M a3 (((3 * x2) + x6)).toNatClampNeg))), (0, .ref a0), (1, .int (x1)), (2, .int (x2)), (3, .ref a3)] dX5_settle_55 rfl rfl rfl (Nat.le_of_ble_eq_true rfl) rfl ?_
        refine g_goto 9 dX5_settle_58 rfl ?_
        exact g_sub [4, 5, 6, 7, 2, 1, 0] _ rfl (ih M a0 x1 x2 a3 n3 (x4 + (g_mi M (a0 + 2) ((g_mi M a3 (((3 * x2) + x6)).toNatClampNeg)).toNatClampNeg)) (x5 + (g_mi M (a0 + 3) ((g_mi M a3 (((3 * x2) + x6)).toNatClampNeg)).toNatClampNeg)) (x6 + 1) s0 s3 H (fun M1 j r => hR M1 j r))
set_option maxRecDepth 10000 in
theorem uX5_settle {N K : Nat} {X : gX} {d mc ms : Nat} {Q : Option Value → gM → Prop} {M : gM} {a0 : Nat} {x1 : Int32} {x2 : Int32} {a3 n3 : Nat} {R : gM → Prop} (s0 : Tb M a0) (s3 : g_kd M a3 = some (100, n3)) (H : pX5_settle N K M a0 x1 x2 a3 n3 R) (hR : ∀ (M1 : gM), Sm M M1 → R M1 → Q none M1) : Cn X (d + 1) mc ms kX5_settle [.ref a0, .int (x1), .int (x2), .ref a3] M Q := by
  have ih := ulX5_settle (X := X) (d := d) (mc := mc) (ms := ms) (Q := Q) (N := N) (K := K) (R := R) N
  unfold pX5_settle pX5_settle_0 at H
  refine g_meth rfl rfl (Nat.le_of_ble_eq_true rfl) rfl ?_
  refine g_iconst (0) 1 dX5_settle_0 rfl rfl ?_
  refine g_istore 3 [(4, .int (0)), (0, .ref a0), (1, .int (x1)), (2, .int (x2)), (3, .ref a3)] dX5_settle_1 rfl (Nat.le_of_ble_eq_true rfl) rfl ?_
  refine g_iconst (0) 4 dX5_settle_3 rfl rfl ?_
  refine g_istore 6 [(5, .int (0)), (4, .int (0)), (0, .ref a0), (1, .int (x1)), (2, .int (x2)), (3, .ref a3)] dX5_settle_4 rfl (Nat.le_of_ble_eq_true rfl) rfl ?_
  refine g_iconst (0) 7 dX5_settle_6 rfl rfl ?_
  refine g_istore 9 [(6, .int (0)), (5, .int (0)), (4, .int (0)), (0, .ref a0), (1, .int (x1)), (2, .int (x2)), (3, .ref a3)] dX5_settle_7 rfl (Nat.le_of_ble_eq_true rfl) rfl ?_
  exact g_sub [3, 4, 5, 6, 2, 1, 0] _ rfl (ih M a0 x1 x2 a3 n3 0 0 0 s0 s3 H (fun M1 j r => hR M1 j r))
