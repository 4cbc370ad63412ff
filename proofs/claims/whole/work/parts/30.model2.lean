/-! X9_readClause  -/
set_option maxRecDepth 4000 in
theorem sX9_readClause_0 {N : Nat} {K : Nat} {X : gX} {d mc ms : Nat} {Q : Option Value → gM → Prop} {M : gM} {a0 : Nat} (s0 : Mo M a0) (b1 : EX9_takes0 M a0 1) (b2 : ((fX9_takes0 M a0 1) = 0) → EX9_must (mX9_takes0 M a0 1) a0 2) (b3 : ((fX9_takes0 M a0 1) = 0) → EX9_takes0 (mX9_must (mX9_takes0 M a0 1) a0 2) a0 3) (h4 : ((fX9_takes0 M a0 1) = 0) → ((fX9_takes0 (mX9_must (mX9_takes0 M a0 1) a0 2) a0 3) = 0) → Q none (mX9_takes0 (mX9_must (mX9_takes0 M a0 1) a0 2) a0 3)) (b5 : ((fX9_takes0 M a0 1) = 0) → (¬ (fX9_takes0 (mX9_must (mX9_takes0 M a0 1) a0 2) a0 3) = 0) → EX9_readTest N K (mX9_takes0 (mX9_must (mX9_takes0 M a0 1) a0 2) a0 3) a0 0) (h6 : ((fX9_takes0 M a0 1) = 0) → (¬ (fX9_takes0 (mX9_must (mX9_takes0 M a0 1) a0 2) a0 3) = 0) → Q none (mX9_readTest N K (mX9_takes0 (mX9_must (mX9_takes0 M a0 1) a0 2) a0 3) a0 0)) (b7 : (¬ (fX9_takes0 M a0 1) = 0) → EX9_readSum N K (mX9_takes0 M a0 1) a0 0) (b8 : (¬ (fX9_takes0 M a0 1) = 0) → EX9_takes0 (mX9_readSum N K (mX9_takes0 M a0 1) a0 0) a0 3) (h9 : (¬ (fX9_takes0 M a0 1) = 0) → ((fX9_takes0 (mX9_readSum N K (mX9_takes0 M a0 1) a0 0) a0 3) = 0) → Q none (mX9_takes0 (mX9_readSum N K (mX9_takes0 M a0 1) a0 0) a0 3)) (b10 : (¬ (fX9_takes0 M a0 1) = 0) → (¬ (fX9_takes0 (mX9_readSum N K (mX9_takes0 M a0 1) a0 0) a0 3) = 0) → EX9_readTest N K (mX9_takes0 (mX9_readSum N K (mX9_takes0 M a0 1) a0 0) a0 3) a0 0) (h11 : (¬ (fX9_takes0 M a0 1) = 0) → (¬ (fX9_takes0 (mX9_readSum N K (mX9_takes0 M a0 1) a0 0) a0 3) = 0) → Q none (mX9_readTest N K (mX9_takes0 (mX9_readSum N K (mX9_takes0 M a0 1) a0 0) a0 3) a0 0)) : Cn X (d + K + 5) mc ms kX9_readClause [.ref a0] M Q := by
  refine g_meth rfl rfl (Nat.le_of_ble_eq_true rfl) rfl ?_
  refine g_aload_n 0 1 dX9_readClause_0 rfl rfl ?_
  refine g_iconst (1) 2 dX9_readClause_1 rfl rfl ?_
  refine g_callV (mc1 := 0) (ms1 := 0) (b := a0) (rest := []) (av := [.int (1)]) kX9_takes0 5 dX9_readClause_2 rfl rfl mbX9_189 imX9_takes0 seX9_takes0 gcl9.1 s0.1 (Nat.le_of_ble_eq_true rfl) (Nat.zero_le _) (Nat.zero_le _) (tX9_takes0 s0 (b1) ?_)
  show Go X (d + K + 5) mc ms kX9_readClause Q 5 [(0, .ref a0)] [.int ((fX9_takes0 M a0 1))] (mX9_takes0 M a0 1) 0 0
  refine g_if_eq 16 8 dX9_readClause_5 rfl rfl (fun c1 => ?_) (fun c1 => ?_)
  · skip
    refine g_aload_n 0 17 dX9_readClause_16 rfl rfl ?_
    refine g_iconst (2) 18 dX9_readClause_17 rfl rfl ?_
    refine g_callV (mc1 := 0) (ms1 := 0) (b := a0) (rest := []) (av := [.int (2)]) kX9_must 21 dX9_readClause_18 rfl rfl mbX9_202 imX9_must seX9_must gcl9.1 (Sm.k (Sm.tr Sm.rf jX9_takes0) s0.1) (Nat.le_of_ble_eq_true rfl) (Nat.zero_le _) (Nat.zero_le _) (tX9_must (Mo.sm (Sm.tr Sm.rf jX9_takes0) s0) (b2 c1) ?_)
    show Go X (d + K + 5) mc ms kX9_readClause Q 21 [(0, .ref a0)] [] (mX9_must (mX9_takes0 M a0 1) a0 2) 0 0
    refine g_aload_n 0 22 dX9_readClause_21 rfl rfl ?_
    refine g_iconst (3) 23 dX9_readClause_22 rfl rfl ?_
    refine g_callV (mc1 := 0) (ms1 := 0) (b := a0) (rest := []) (av := [.int (3)]) kX9_takes0 26 dX9_readClause_23 rfl rfl mbX9_189 imX9_takes0 seX9_takes0 gcl9.1 (Sm.k (Sm.tr (Sm.tr Sm.rf jX9_takes0) jX9_must) s0.1) (Nat.le_of_ble_eq_true rfl) (Nat.zero_le _) (Nat.zero_le _) (tX9_takes0 (Mo.sm (Sm.tr (Sm.tr Sm.rf jX9_takes0) jX9_must) s0) (b3 c1) ?_)
    show Go X (d + K + 5) mc ms kX9_readClause Q 26 [(0, .ref a0)] [.int ((fX9_takes0 (mX9_must (mX9_takes0 M a0 1) a0 2) a0 3))] (mX9_takes0 (mX9_must (mX9_takes0 M a0 1) a0 2) a0 3) 0 0
    refine g_if_eq 34 29 dX9_readClause_26 rfl rfl (fun c2 => ?_) (fun c2 => ?_)
    · skip
      exact g_vret dX9_readClause_34 rfl (Nat.zero_le _) (Nat.zero_le _) (h4 c1 c2)
    · skip
      refine g_aload_n 0 30 dX9_readClause_29 rfl rfl ?_
      refine g_iconst (0) 31 dX9_readClause_30 rfl rfl ?_
      refine g_callV (mc1 := 0) (ms1 := 0) (b := a0) (rest := []) (av := [.int (0)]) kX9_readTest 34 dX9_readClause_31 rfl rfl mbX9_205 imX9_readTest seX9_readTest gcl9.1 (Sm.k (Sm.tr (Sm.tr (Sm.tr Sm.rf jX9_takes0) jX9_must) jX9_takes0) s0.1) (Nat.le_of_ble_eq_true rfl) (Nat.zero_le _) (Nat.zero_le _) (tX9_readTest (N := N) (K := K) (Mo.sm (Sm.tr (Sm.tr (Sm.tr Sm.rf jX9_takes0) jX9_must) jX9_takes0) s0) (b5 c1 c2) ?_)
      show Go X (d + K + 5) mc ms kX9_readClause Q 34 [(0, .ref a0)] [] (mX9_readTest N K (mX9_takes0 (mX9_must (mX9_takes0 M a0 1) a0 2) a0 3) a0 0) 0 0
      exact g_vret dX9_readClause_34 rfl (Nat.zero_le _) (Nat.zero_le _) (h6 c1 c2)
  · skip
    refine g_aload_n 0 9 dX9_readClause_8 rfl rfl ?_
    refine g_iconst (0) 10 dX9_readClause_9 rfl rfl ?_
    refine g_callV (mc1 := 0) (ms1 := 0) (b := a0) (rest := []) (av := [.int (0)]) kX9_readSum 13 dX9_readClause_10 rfl rfl mbX9_198 imX9_readSum seX9_readSum gcl9.1 (Sm.k (Sm.tr Sm.rf jX9_takes0) s0.1) (Nat.le_of_ble_eq_true rfl) (Nat.zero_le _) (Nat.zero_le _) (tX9_readSum (N := N) (K := K) (Mo.sm (Sm.tr Sm.rf jX9_takes0) s0) (b7 c1) ?_)
    show Go X (d + K + 5) mc ms kX9_readClause Q 13 [(0, .ref a0)] [] (mX9_readSum N K (mX9_takes0 M a0 1) a0 0) 0 0
    refine g_goto 21 dX9_readClause_13 rfl ?_
    refine g_aload_n 0 22 dX9_readClause_21 rfl rfl ?_
    refine g_iconst (3) 23 dX9_readClause_22 rfl rfl ?_
    refine g_callV (mc1 := 0) (ms1 := 0) (b := a0) (rest := []) (av := [.int (3)]) kX9_takes0 26 dX9_readClause_23 rfl rfl mbX9_189 imX9_takes0 seX9_takes0 gcl9.1 (Sm.k (Sm.tr (Sm.tr Sm.rf jX9_takes0) jX9_readSum) s0.1) (Nat.le_of_ble_eq_true rfl) (Nat.zero_le _) (Nat.zero_le _) (tX9_takes0 (Mo.sm (Sm.tr (Sm.tr Sm.rf jX9_takes0) jX9_readSum) s0) (b8 c1) ?_)
    show Go X (d + K + 5) mc ms kX9_readClause Q 26 [(0, .ref a0)] [.int ((fX9_takes0 (mX9_readSum N K (mX9_takes0 M a0 1) a0 0) a0 3))] (mX9_takes0 (mX9_readSum N K (mX9_takes0 M a0 1) a0 0) a0 3) 0 0
    refine g_if_eq 34 29 dX9_readClause_26 rfl rfl (fun c3 => ?_) (fun c3 => ?_)
    · skip
      exact g_vret dX9_readClause_34 rfl (Nat.zero_le _) (Nat.zero_le _) (h9 c1 c3)
    · skip
      refine g_aload_n 0 30 dX9_readClause_29 rfl rfl ?_
      refine g_iconst (0) 31 dX9_readClause_30 rfl rfl ?_
      refine g_callV (mc1 := 0) (ms1 := 0) (b := a0) (rest := []) (av := [.int (0)]) kX9_readTest 34 dX9_readClause_31 rfl rfl mbX9_205 imX9_readTest seX9_readTest gcl9.1 (Sm.k (Sm.tr (Sm.tr (Sm.tr Sm.rf jX9_takes0) jX9_readSum) jX9_takes0) s0.1) (Nat.le_of_ble_eq_true rfl) (Nat.zero_le _) (Nat.zero_le _) (tX9_readTest (N := N) (K := K) (Mo.sm (Sm.tr (Sm.tr (Sm.tr Sm.rf jX9_takes0) jX9_readSum) jX9_takes0) s0) (b10 c1 c3) ?_)
      show Go X (d + K + 5) mc ms kX9_readClause Q 34 [(0, .ref a0)] [] (mX9_readTest N K (mX9_takes0 (mX9_readSum N K (mX9_takes0 M a0 1) a0 0) a0 3) a0 0) 0 0
      exact g_vret dX9_readClause_34 rfl (Nat.zero_le _) (Nat.zero_le _) (h11 c1 c3)

def mX9_readClause (N : Nat) (K : Nat) (M : gM) (a0 : Nat) : gM := g_wm M (if (fX9_takes0 M a0 1) = 0 then (if (fX9_takes0 (mX9_must (mX9_takes0 M a0 1) a0 2) a0 3) = 0 then (g_mi (mX9_takes0 (mX9_must (mX9_takes0 M a0 1) a0 2) a0 3)) else (g_mi (mX9_readTest N K (mX9_takes0 (mX9_must (mX9_takes0 M a0 1) a0 2) a0 3) a0 0))) else (if (fX9_takes0 (mX9_readSum N K (mX9_takes0 M a0 1) a0 0) a0 3) = 0 then (g_mi (mX9_takes0 (mX9_readSum N K (mX9_takes0 M a0 1) a0 0) a0 3)) else (g_mi (mX9_readTest N K (mX9_takes0 (mX9_readSum N K (mX9_takes0 M a0 1) a0 0) a0 3) a0 0)))) (g_ml M)
def EX9_readClause (N : Nat) (K : Nat) (M : gM) (a0 : Nat) : Prop := (EX9_takes0 M a0 1) ∧ (((fX9_takes0 M a0 1) = 0) → EX9_must (mX9_takes0 M a0 1) a0 2) ∧ (((fX9_takes0 M a0 1) = 0) → EX9_takes0 (mX9_must (mX9_takes0 M a0 1) a0 2) a0 3) ∧ (((fX9_takes0 M a0 1) = 0) → (¬ (fX9_takes0 (mX9_must (mX9_takes0 M a0 1) a0 2) a0 3) = 0) → EX9_readTest N K (mX9_takes0 (mX9_must (mX9_takes0 M a0 1) a0 2) a0 3) a0 0) ∧ ((¬ (fX9_takes0 M a0 1) = 0) → EX9_readSum N K (mX9_takes0 M a0 1) a0 0) ∧ ((¬ (fX9_takes0 M a0 1) = 0) → EX9_takes0 (mX9_readSum N K (mX9_takes0 M a0 1) a0 0) a0 3) ∧ ((¬ (fX9_takes0 M a0 1) = 0) → (¬ (fX9_takes0 (mX9_readSum N K (mX9_takes0 M a0 1) a0 0) a0 3) = 0) → EX9_readTest N K (mX9_takes0 (mX9_readSum N K (mX9_takes0 M a0 1) a0 0) a0 3) a0 0)
theorem jX9_readClause {N : Nat} {K : Nat} {M : gM} {a0 : Nat} : Sm M (mX9_readClause N K M a0) := Sm.wm
theorem tX9_readClause {N : Nat} {K : Nat} {X : gX} {d mc ms : Nat} {Q : Option Value → gM → Prop} {M : gM} {a0 : Nat} (s0 : Mo M a0) (hE : EX9_readClause N K M a0) (hQ : Q none (mX9_readClause N K M a0)) : Cn X (d + K + 5) mc ms kX9_readClause [.ref a0] M Q := by
  unfold mX9_readClause at hQ
  obtain ⟨b1, b2, b3, b5, b7, b8, b10⟩ := hE
  exact sX9_readClause_0 s0 b1 b2 b3 (fun c1 c2 => by simp only [if_pos c1, if_pos c2] at hQ; exact Sm.q (Sm.tr (Sm.tr (Sm.tr Sm.rf jX9_takes0) jX9_must) jX9_takes0) hQ) b5 (fun c1 c2 => by simp only [if_pos c1, if_neg c2] at hQ; exact Sm.q (Sm.tr (Sm.tr (Sm.tr (Sm.tr Sm.rf jX9_takes0) jX9_must) jX9_takes0) jX9_readTest) hQ) b7 b8 (fun c1 c3 => by simp only [if_neg c1, if_pos c3] at hQ; exact Sm.q (Sm.tr (Sm.tr (Sm.tr Sm.rf jX9_takes0) jX9_readSum) jX9_takes0) hQ) b10 (fun c1 c3 => by simp only [if_neg c1, if_neg c3] at hQ; exact Sm.q (Sm.tr (Sm.tr (Sm.tr (Sm.tr Sm.rf jX9_takes0) jX9_readSum) jX9_takes0) jX9_readTest) hQ)
/-! X9_readOrder  -/
set_option maxRecDepth 4000 in
theorem sX9_readOrder_0 {K : Nat} {X : gX} {d mc ms : Nat} {Q : Option Value → gM → Prop} {M : gM} {a0 : Nat} (s0 : Mo M a0) (b1 : EX9_takes0 M a0 18) (h2 : (¬ (fX9_takes0 M a0 18) = 0) → Go X (d + K + 5) mc ms kX9_readOrder Q 36 [(0, .ref a0)] [] (mX9_takes0 M a0 18) 0 0) (b3 : ((fX9_takes0 M a0 18) = 0) → EX9_takes0 (mX9_takes0 M a0 18) a0 19) (h4 : ((fX9_takes0 M a0 18) = 0) → (¬ (fX9_takes0 (mX9_takes0 M a0 18) a0 19) = 0) → Go X (d + K + 5) mc ms kX9_readOrder Q 36 [(0, .ref a0)] [] (mX9_takes0 (mX9_takes0 M a0 18) a0 19) 0 0) (b5 : ((fX9_takes0 M a0 18) = 0) → ((fX9_takes0 (mX9_takes0 M a0 18) a0 19) = 0) → EX9_takes0 (mX9_takes0 (mX9_takes0 M a0 18) a0 19) a0 20) (h6 : ((fX9_takes0 M a0 18) = 0) → ((fX9_takes0 (mX9_takes0 M a0 18) a0 19) = 0) → (¬ (fX9_takes0 (mX9_takes0 (mX9_takes0 M a0 18) a0 19) a0 20) = 0) → Go X (d + K + 5) mc ms kX9_readOrder Q 36 [(0, .ref a0)] [] (mX9_takes0 (mX9_takes0 (mX9_takes0 M a0 18) a0 19) a0 20) 0 0) (b7 : ((fX9_takes0 M a0 18) = 0) → ((fX9_takes0 (mX9_takes0 M a0 18) a0 19) = 0) → ((fX9_takes0 (mX9_takes0 (mX9_takes0 M a0 18) a0 19) a0 20) = 0) → EX9_takes0 (mX9_takes0 (mX9_takes0 (mX9_takes0 M a0 18) a0 19) a0 20) a0 10) (b8 : ((fX9_takes0 M a0 18) = 0) → ((fX9_takes0 (mX9_takes0 M a0 18) a0 19) = 0) → ((fX9_takes0 (mX9_takes0 (mX9_takes0 M a0 18) a0 19) a0 20) = 0) → ((fX9_takes0 (mX9_takes0 (mX9_takes0 (mX9_takes0 M a0 18) a0 19) a0 20) a0 10) = 0) → EX9_must (mX9_takes0 (mX9_takes0 (mX9_takes0 (mX9_takes0 M a0 18) a0 19) a0 20) a0 10) a0 21) (h9 : ((fX9_takes0 M a0 18) = 0) → ((fX9_takes0 (mX9_takes0 M a0 18) a0 19) = 0) → ((fX9_takes0 (mX9_takes0 (mX9_takes0 M a0 18) a0 19) a0 20) = 0) → ((fX9_takes0 (mX9_takes0 (mX9_takes0 (mX9_takes0 M a0 18) a0 19) a0 20) a0 10) = 0) → Go X (d + K + 5) mc ms kX9_readOrder Q 50 [(0, .ref a0)] [] (mX9_must (mX9_takes0 (mX9_takes0 (mX9_takes0 (mX9_takes0 M a0 18) a0 19) a0 20) a0 10) a0 21) 0 0) (h10 : ((fX9_takes0 M a0 18) = 0) → ((fX9_takes0 (mX9_takes0 M a0 18) a0 19) = 0) → ((fX9_takes0 (mX9_takes0 (mX9_takes0 M a0 18) a0 19) a0 20) = 0) → (¬ (fX9_takes0 (mX9_takes0 (mX9_takes0 (mX9_takes0 M a0 18) a0 19) a0 20) a0 10) = 0) → Go X (d + K + 5) mc ms kX9_readOrder Q 36 [(0, .ref a0)] [] (mX9_takes0 (mX9_takes0 (mX9_takes0 (mX9_takes0 M a0 18) a0 19) a0 20) a0 10) 0 0) : Cn X (d + K + 5) mc ms kX9_readOrder [.ref a0] M Q := by
  refine g_meth rfl rfl (Nat.le_of_ble_eq_true rfl) rfl ?_
  refine g_aload_n 0 1 dX9_readOrder_0 rfl rfl ?_
  refine g_bipush (18) 3 dX9_readOrder_1 rfl rfl ?_
  refine g_callV (mc1 := 0) (ms1 := 0) (b := a0) (rest := []) (av := [.int (18)]) kX9_takes0 6 dX9_readOrder_3 rfl rfl mbX9_189 imX9_takes0 seX9_takes0 gcl9.1 s0.1 (Nat.le_of_ble_eq_true rfl) (Nat.zero_le _) (Nat.zero_le _) (tX9_takes0 s0 (b1) ?_)
  show Go X (d + K + 5) mc ms kX9_readOrder Q 6 [(0, .ref a0)] [.int ((fX9_takes0 M a0 18))] (mX9_takes0 M a0 18) 0 0
  refine g_if_ne 36 9 dX9_readOrder_6 rfl rfl (fun c1 => ?_) (fun c1 => ?_)
  · skip
    exact (h2 c1)
  · skip
    refine g_aload_n 0 10 dX9_readOrder_9 rfl rfl ?_
    refine g_bipush (19) 12 dX9_readOrder_10 rfl rfl ?_
    refine g_callV (mc1 := 0) (ms1 := 0) (b := a0) (rest := []) (av := [.int (19)]) kX9_takes0 15 dX9_readOrder_12 rfl rfl mbX9_189 imX9_takes0 seX9_takes0 gcl9.1 (Sm.k (Sm.tr Sm.rf jX9_takes0) s0.1) (Nat.le_of_ble_eq_true rfl) (Nat.zero_le _) (Nat.zero_le _) (tX9_takes0 (Mo.sm (Sm.tr Sm.rf jX9_takes0) s0) (b3 c1) ?_)
    show Go X (d + K + 5) mc ms kX9_readOrder Q 15 [(0, .ref a0)] [.int ((fX9_takes0 (mX9_takes0 M a0 18) a0 19))] (mX9_takes0 (mX9_takes0 M a0 18) a0 19) 0 0
    refine g_if_ne 36 18 dX9_readOrder_15 rfl rfl (fun c2 => ?_) (fun c2 => ?_)
    · skip
      exact (h4 c1 c2)
    · skip
      refine g_aload_n 0 19 dX9_readOrder_18 rfl rfl ?_
      refine g_bipush (20) 21 dX9_readOrder_19 rfl rfl ?_
      refine g_callV (mc1 := 0) (ms1 := 0) (b := a0) (rest := []) (av := [.int (20)]) kX9_takes0 24 dX9_readOrder_21 rfl rfl mbX9_189 imX9_takes0 seX9_takes0 gcl9.1 (Sm.k (Sm.tr (Sm.tr Sm.rf jX9_takes0) jX9_takes0) s0.1) (Nat.le_of_ble_eq_true rfl) (Nat.zero_le _) (Nat.zero_le _) (tX9_takes0 (Mo.sm (Sm.tr (Sm.tr Sm.rf jX9_takes0) jX9_takes0) s0) (b5 c1 c2) ?_)
      show Go X (d + K + 5) mc ms kX9_readOrder Q 24 [(0, .ref a0)] [.int ((fX9_takes0 (mX9_takes0 (mX9_takes0 M a0 18) a0 19) a0 20))] (mX9_takes0 (mX9_takes0 (mX9_takes0 M a0 18) a0 19) a0 20) 0 0
      refine g_if_ne 36 27 dX9_readOrder_24 rfl rfl (fun c3 => ?_) (fun c3 => ?_)
      · skip
        exact (h6 c1 c2 c3)
      · skip
        refine g_aload_n 0 28 dX9_readOrder_27 rfl rfl ?_
        refine g_bipush (10) 30 dX9_readOrder_28 rfl rfl ?_
        refine g_callV (mc1 := 0) (ms1 := 0) (b := a0) (rest := []) (av := [.int (10)]) kX9_takes0 33 dX9_readOrder_30 rfl rfl mbX9_189 imX9_takes0 seX9_takes0 gcl9.1 (Sm.k (Sm.tr (Sm.tr (Sm.tr Sm.rf jX9_takes0) jX9_takes0) jX9_takes0) s0.1) (Nat.le_of_ble_eq_true rfl) (Nat.zero_le _) (Nat.zero_le _) (tX9_takes0 (Mo.sm (Sm.tr (Sm.tr (Sm.tr Sm.rf jX9_takes0) jX9_takes0) jX9_takes0) s0) (b7 c1 c2 c3) ?_)
        show Go X (d + K + 5) mc ms kX9_readOrder Q 33 [(0, .ref a0)] [.int ((fX9_takes0 (mX9_takes0 (mX9_takes0 (mX9_takes0 M a0 18) a0 19) a0 20) a0 10))] (mX9_takes0 (mX9_takes0 (mX9_takes0 (mX9_takes0 M a0 18) a0 19) a0 20) a0 10) 0 0
        refine g_if_eq 44 36 dX9_readOrder_33 rfl rfl (fun c4 => ?_) (fun c4 => ?_)
        · skip
          refine g_aload_n 0 45 dX9_readOrder_44 rfl rfl ?_
          refine g_bipush (21) 47 dX9_readOrder_45 rfl rfl ?_
          refine g_callV (mc1 := 0) (ms1 := 0) (b := a0) (rest := []) (av := [.int (21)]) kX9_must 50 dX9_readOrder_47 rfl rfl mbX9_202 imX9_must seX9_must gcl9.1 (Sm.k (Sm.tr (Sm.tr (Sm.tr (Sm.tr Sm.rf jX9_takes0) jX9_takes0) jX9_takes0) jX9_takes0) s0.1) (Nat.le_of_ble_eq_true rfl) (Nat.zero_le _) (Nat.zero_le _) (tX9_must (Mo.sm (Sm.tr (Sm.tr (Sm.tr (Sm.tr Sm.rf jX9_takes0) jX9_takes0) jX9_takes0) jX9_takes0) s0) (b8 c1 c2 c3 c4) ?_)
          show Go X (d + K + 5) mc ms kX9_readOrder Q 50 [(0, .ref a0)] [] (mX9_must (mX9_takes0 (mX9_takes0 (mX9_takes0 (mX9_takes0 M a0 18) a0 19) a0 20) a0 10) a0 21) 0 0
          exact (h9 c1 c2 c3 c4)
        · skip
          exact (h10 c1 c2 c3 c4)

set_option maxRecDepth 4000 in
theorem sX9_readOrder_36 {N : Nat} {K : Nat} {X : gX} {d mc ms : Nat} {Q : Option Value → gM → Prop} {M : gM} {c z : Nat} {a0 : Nat} (s0 : Mo M a0) (w1 : c ≤ mc) (w2 : z ≤ ms) (b3 : EX9_readSum N K M a0 0) (h4 : Go X (d + K + 5) mc ms kX9_readOrder Q 50 [(0, .ref a0)] [] (mX9_readSum N K M a0 0) c z) : Go X (d + K + 5) mc ms kX9_readOrder Q 36 [(0, .ref a0)] [] M c z := by
  refine g_aload_n 0 37 dX9_readOrder_36 rfl rfl ?_
  refine g_iconst (0) 38 dX9_readOrder_37 rfl rfl ?_
  refine g_callV (mc1 := 0) (ms1 := 0) (b := a0) (rest := []) (av := [.int (0)]) kX9_readSum 41 dX9_readOrder_38 rfl rfl mbX9_198 imX9_readSum seX9_readSum gcl9.1 s0.1 (Nat.le_of_ble_eq_true rfl) (w1) (w2) (tX9_readSum (N := N) (K := K) s0 (b3) ?_)
  show Go X (d + K + 5) mc ms kX9_readOrder Q 41 [(0, .ref a0)] [] (mX9_readSum N K M a0 0) c z
  refine g_goto 50 dX9_readOrder_41 rfl ?_
  exact (h4)

set_option maxRecDepth 4000 in
theorem sX9_readOrder_50 {K : Nat} {X : gX} {d mc ms : Nat} {Q : Option Value → gM → Prop} {M : gM} {c z : Nat} {a0 : Nat} (s0 : Mo M a0) (w1 : c ≤ mc) (w2 : z ≤ ms) (b3 : EX9_takes0 M a0 22) (h4 : ((fX9_takes0 M a0 22) = 0) → Go X (d + K + 5) mc ms kX9_readOrder Q 66 [(0, .ref a0)] [] (mX9_takes0 M a0 22) c z) (b5 : (¬ (fX9_takes0 M a0 22) = 0) → EX9_mustNumber (mX9_takes0 M a0 22) a0 1 20) (h6 : (¬ (fX9_takes0 M a0 22) = 0) → Go X (d + K + 5) mc ms kX9_readOrder Q 66 [(0, .ref a0)] [] (mX9_mustNumber (mX9_takes0 M a0 22) a0 1 20) c z) : Go X (d + K + 5) mc ms kX9_readOrder Q 50 [(0, .ref a0)] [] M c z := by
  refine g_aload_n 0 51 dX9_readOrder_50 rfl rfl ?_
  refine g_bipush (22) 53 dX9_readOrder_51 rfl rfl ?_
  refine g_callV (mc1 := 0) (ms1 := 0) (b := a0) (rest := []) (av := [.int (22)]) kX9_takes0 56 dX9_readOrder_53 rfl rfl mbX9_189 imX9_takes0 seX9_takes0 gcl9.1 s0.1 (Nat.le_of_ble_eq_true rfl) (w1) (w2) (tX9_takes0 s0 (b3) ?_)
  show Go X (d + K + 5) mc ms kX9_readOrder Q 56 [(0, .ref a0)] [.int ((fX9_takes0 M a0 22))] (mX9_takes0 M a0 22) c z
  refine g_if_eq 66 59 dX9_readOrder_56 rfl rfl (fun c1 => ?_) (fun c1 => ?_)
  · skip
    exact (h4 c1)
  · skip
    refine g_aload_n 0 60 dX9_readOrder_59 rfl rfl ?_
    refine g_iconst (1) 61 dX9_readOrder_60 rfl rfl ?_
    refine g_bipush (20) 63 dX9_readOrder_61 rfl rfl ?_
    refine g_callV (mc1 := 0) (ms1 := 0) (b := a0) (rest := []) (av := [.int (1), .int (20)]) kX9_mustNumber 66 dX9_readOrder_63 rfl rfl mbX9_208 imX9_mustNumber seX9_mustNumber gcl9.1 (Sm.k (Sm.tr Sm.rf jX9_takes0) s0.1) (Nat.le_of_ble_eq_true rfl) (w1) (w2) (tX9_mustNumber (Mo.sm (Sm.tr Sm.rf jX9_takes0) s0) (b5 c1) ?_)
    show Go X (d + K + 5) mc ms kX9_readOrder Q 66 [(0, .ref a0)] [] (mX9_mustNumber (mX9_takes0 M a0 22) a0 1 20) c z
    exact (h6 c1)

set_option maxRecDepth 4000 in
theorem sX9_readOrder_66 {N : Nat} {K : Nat} {X : gX} {d mc ms : Nat} {Q : Option Value → gM → Prop} {M : gM} {c z : Nat} {a0 : Nat} (s0 : Mo M a0) (w1 : c ≤ mc) (w2 : z ≤ ms) (b3 : EX9_takes0 M a0 3) (h4 : ((fX9_takes0 M a0 3) = 0) → Go X (d + K + 5) mc ms kX9_readOrder Q 79 [] [] (mX9_takes0 M a0 3) c z) (b5 : (¬ (fX9_takes0 M a0 3) = 0) → EX9_readTest N K (mX9_takes0 M a0 3) a0 0) (h6 : (¬ (fX9_takes0 M a0 3) = 0) → Go X (d + K + 5) mc ms kX9_readOrder Q 79 [] [] (mX9_readTest N K (mX9_takes0 M a0 3) a0 0) c z) : Go X (d + K + 5) mc ms kX9_readOrder Q 66 [(0, .ref a0)] [] M c z := by
  refine g_aload_n 0 67 dX9_readOrder_66 rfl rfl ?_
  refine g_iconst (3) 68 dX9_readOrder_67 rfl rfl ?_
  refine g_callV (mc1 := 0) (ms1 := 0) (b := a0) (rest := []) (av := [.int (3)]) kX9_takes0 71 dX9_readOrder_68 rfl rfl mbX9_189 imX9_takes0 seX9_takes0 gcl9.1 s0.1 (Nat.le_of_ble_eq_true rfl) (w1) (w2) (tX9_takes0 s0 (b3) ?_)
  show Go X (d + K + 5) mc ms kX9_readOrder Q 71 [(0, .ref a0)] [.int ((fX9_takes0 M a0 3))] (mX9_takes0 M a0 3) c z
  refine g_if_eq 79 74 dX9_readOrder_71 rfl rfl (fun c1 => ?_) (fun c1 => ?_)
  · skip
    exact g_sub [] _ rfl (h4 c1)
  · skip
    refine g_aload_n 0 75 dX9_readOrder_74 rfl rfl ?_
    refine g_iconst (0) 76 dX9_readOrder_75 rfl rfl ?_
    refine g_callV (mc1 := 0) (ms1 := 0) (b := a0) (rest := []) (av := [.int (0)]) kX9_readTest 79 dX9_readOrder_76 rfl rfl mbX9_205 imX9_readTest seX9_readTest gcl9.1 (Sm.k (Sm.tr Sm.rf jX9_takes0) s0.1) (Nat.le_of_ble_eq_true rfl) (w1) (w2) (tX9_readTest (N := N) (K := K) (Mo.sm (Sm.tr Sm.rf jX9_takes0) s0) (b5 c1) ?_)
    show Go X (d + K + 5) mc ms kX9_readOrder Q 79 [(0, .ref a0)] [] (mX9_readTest N K (mX9_takes0 M a0 3) a0 0) c z
    exact g_sub [] _ rfl (h6 c1)

set_option maxRecDepth 4000 in
theorem sX9_readOrder_79 {K : Nat} {X : gX} {d mc ms : Nat} {Q : Option Value → gM → Prop} {M : gM} {c z : Nat}  (h1 : Q none M) (w2 : c ≤ mc) (w3 : z ≤ ms) : Go X (d + K + 5) mc ms kX9_readOrder Q 79 [] [] M c z := by
  exact g_vret dX9_readOrder_79 rfl (w2) (w3) (h1)

def bX9_readOrder_0 (N : Nat) (K : Nat) (M : gM) (a0 : Nat) (k : Nat → (Nat → Nat → Int32) → Nat → Int32 × (Nat → Nat → Int32)) : Int32 × (Nat → Nat → Int32) := (if (fX9_takes0 M a0 18) = 0 then (if (fX9_takes0 (mX9_takes0 M a0 18) a0 19) = 0 then (if (fX9_takes0 (mX9_takes0 (mX9_takes0 M a0 18) a0 19) a0 20) = 0 then (if (fX9_takes0 (mX9_takes0 (mX9_takes0 (mX9_takes0 M a0 18) a0 19) a0 20) a0 10) = 0 then (k 1 (g_mi (mX9_must (mX9_takes0 (mX9_takes0 (mX9_takes0 (mX9_takes0 M a0 18) a0 19) a0 20) a0 10) a0 21)) a0) else (k 0 (g_mi (mX9_takes0 (mX9_takes0 (mX9_takes0 (mX9_takes0 M a0 18) a0 19) a0 20) a0 10)) a0)) else (k 0 (g_mi (mX9_takes0 (mX9_takes0 (mX9_takes0 M a0 18) a0 19) a0 20)) a0)) else (k 0 (g_mi (mX9_takes0 (mX9_takes0 M a0 18) a0 19)) a0)) else (k 0 (g_mi (mX9_takes0 M a0 18)) a0))
def eX9_readOrder_0 (N : Nat) (K : Nat) (M : gM) (a0 : Nat) (k : Nat → (Nat → Nat → Int32) → Nat → Prop) : Prop := (EX9_takes0 M a0 18) ∧ (((fX9_takes0 M a0 18) = 0) → EX9_takes0 (mX9_takes0 M a0 18) a0 19) ∧ (((fX9_takes0 M a0 18) = 0) → ((fX9_takes0 (mX9_takes0 M a0 18) a0 19) = 0) → EX9_takes0 (mX9_takes0 (mX9_takes0 M a0 18) a0 19) a0 20) ∧ (((fX9_takes0 M a0 18) = 0) → ((fX9_takes0 (mX9_takes0 M a0 18) a0 19) = 0) → ((fX9_takes0 (mX9_takes0 (mX9_takes0 M a0 18) a0 19) a0 20) = 0) → EX9_takes0 (mX9_takes0 (mX9_takes0 (mX9_takes0 M a0 18) a0 19) a0 20) a0 10) ∧ (((fX9_takes0 M a0 18) = 0) → ((fX9_takes0 (mX9_takes0 M a0 18) a0 19) = 0) → ((fX9_takes0 (mX9_takes0 (mX9_takes0 M a0 18) a0 19) a0 20) = 0) → ((fX9_takes0 (mX9_takes0 (mX9_takes0 (mX9_takes0 M a0 18) a0 19) a0 20) a0 10) = 0) → EX9_must (mX9_takes0 (mX9_takes0 (mX9_takes0 (mX9_takes0 M a0 18) a0 19) a0 20) a0 10) a0 21) ∧ (if (fX9_takes0 M a0 18) = 0 then (if (fX9_takes0 (mX9_takes0 M a0 18) a0 19) = 0 then (if (fX9_takes0 (mX9_takes0 (mX9_takes0 M a0 18) a0 19) a0 20) = 0 then (if (fX9_takes0 (mX9_takes0 (mX9_takes0 (mX9_takes0 M a0 18) a0 19) a0 20) a0 10) = 0 then (k 1 (g_mi (mX9_must (mX9_takes0 (mX9_takes0 (mX9_takes0 (mX9_takes0 M a0 18) a0 19) a0 20) a0 10) a0 21)) a0) else (k 0 (g_mi (mX9_takes0 (mX9_takes0 (mX9_takes0 (mX9_takes0 M a0 18) a0 19) a0 20) a0 10)) a0)) else (k 0 (g_mi (mX9_takes0 (mX9_takes0 (mX9_takes0 M a0 18) a0 19) a0 20)) a0)) else (k 0 (g_mi (mX9_takes0 (mX9_takes0 M a0 18) a0 19)) a0)) else (k 0 (g_mi (mX9_takes0 M a0 18)) a0))
def bX9_readOrder_36 (N : Nat) (K : Nat) (M : gM) (f : Nat → Nat → Int32) (a0 : Nat) (k : Nat → (Nat → Nat → Int32) → Nat → Int32 × (Nat → Nat → Int32)) : Int32 × (Nat → Nat → Int32) := (k 1 (g_mi (mX9_readSum N K (g_wm M f (g_ml M)) a0 0)) a0)
def eX9_readOrder_36 (N : Nat) (K : Nat) (M : gM) (f : Nat → Nat → Int32) (a0 : Nat) (k : Nat → (Nat → Nat → Int32) → Nat → Prop) : Prop := (EX9_readSum N K (g_wm M f (g_ml M)) a0 0) ∧ (k 1 (g_mi (mX9_readSum N K (g_wm M f (g_ml M)) a0 0)) a0)
def bX9_readOrder_50 (N : Nat) (K : Nat) (M : gM) (f : Nat → Nat → Int32) (a0 : Nat) (k : Nat → (Nat → Nat → Int32) → Nat → Int32 × (Nat → Nat → Int32)) : Int32 × (Nat → Nat → Int32) := (if (fX9_takes0 (g_wm M f (g_ml M)) a0 22) = 0 then (k 2 (g_mi (mX9_takes0 (g_wm M f (g_ml M)) a0 22)) a0) else (k 2 (g_mi (mX9_mustNumber (mX9_takes0 (g_wm M f (g_ml M)) a0 22) a0 1 20)) a0))
def eX9_readOrder_50 (N : Nat) (K : Nat) (M : gM) (f : Nat → Nat → Int32) (a0 : Nat) (k : Nat → (Nat → Nat → Int32) → Nat → Prop) : Prop := (EX9_takes0 (g_wm M f (g_ml M)) a0 22) ∧ ((¬ (fX9_takes0 (g_wm M f (g_ml M)) a0 22) = 0) → EX9_mustNumber (mX9_takes0 (g_wm M f (g_ml M)) a0 22) a0 1 20) ∧ (if (fX9_takes0 (g_wm M f (g_ml M)) a0 22) = 0 then (k 2 (g_mi (mX9_takes0 (g_wm M f (g_ml M)) a0 22)) a0) else (k 2 (g_mi (mX9_mustNumber (mX9_takes0 (g_wm M f (g_ml M)) a0 22) a0 1 20)) a0))
def bX9_readOrder_66 (N : Nat) (K : Nat) (M : gM) (f : Nat → Nat → Int32) (a0 : Nat) (k : Nat → (Nat → Nat → Int32) → Nat → Int32 × (Nat → Nat → Int32)) : Int32 × (Nat → Nat → Int32) := (if (fX9_takes0 (g_wm M f (g_ml M)) a0 3) = 0 then (k 3 (g_mi (mX9_takes0 (g_wm M f (g_ml M)) a0 3)) 0) else (k 3 (g_mi (mX9_readTest N K (mX9_takes0 (g_wm M f (g_ml M)) a0 3) a0 0)) 0))
def eX9_readOrder_66 (N : Nat) (K : Nat) (M : gM) (f : Nat → Nat → Int32) (a0 : Nat) (k : Nat → (Nat → Nat → Int32) → Nat → Prop) : Prop := (EX9_takes0 (g_wm M f (g_ml M)) a0 3) ∧ ((¬ (fX9_takes0 (g_wm M f (g_ml M)) a0 3) = 0) → EX9_readTest N K (mX9_takes0 (g_wm M f (g_ml M)) a0 3) a0 0) ∧ (if (fX9_takes0 (g_wm M f (g_ml M)) a0 3) = 0 then (k 3 (g_mi (mX9_takes0 (g_wm M f (g_ml M)) a0 3)) 0) else (k 3 (g_mi (mX9_readTest N K (mX9_takes0 (g_wm M f (g_ml M)) a0 3) a0 0)) 0))
def bX9_readOrder_79 (N : Nat) (K : Nat) (M : gM) (f : Nat → Nat → Int32)  (k : Nat → (Nat → Nat → Int32) → Nat → Int32 × (Nat → Nat → Int32)) : Int32 × (Nat → Nat → Int32) := (0, g_mi (g_wm M f (g_ml M)))
def eX9_readOrder_79 (N : Nat) (K : Nat) (M : gM) (f : Nat → Nat → Int32)  (k : Nat → (Nat → Nat → Int32) → Nat → Prop) : Prop := True
def wX9_readOrder (N : Nat) (K : Nat) (M : gM) : Nat → Nat → (Nat → Nat → Int32) → Nat → Int32 × (Nat → Nat → Int32)
  | 0, _, f, _ => (0, f)
  | n + 1, h, f, a0 => if h = 0 then bX9_readOrder_36 N K M f a0 (wX9_readOrder N K M n) else if h = 1 then bX9_readOrder_50 N K M f a0 (wX9_readOrder N K M n) else if h = 2 then bX9_readOrder_66 N K M f a0 (wX9_readOrder N K M n) else bX9_readOrder_79 N K M f  (wX9_readOrder N K M n)
def vX9_readOrder (N : Nat) (K : Nat) (M : gM) : Nat → Nat → (Nat → Nat → Int32) → Nat → Prop
  | 0, _, _, _ => False
  | n + 1, h, f, a0 => if h = 0 then eX9_readOrder_36 N K M f a0 (vX9_readOrder N K M n) else if h = 1 then eX9_readOrder_50 N K M f a0 (vX9_readOrder N K M n) else if h = 2 then eX9_readOrder_66 N K M f a0 (vX9_readOrder N K M n) else eX9_readOrder_79 N K M f  (vX9_readOrder N K M n)
set_option maxRecDepth 10000 in
theorem lpX9_readOrder {X : gX} {d mc ms : Nat} {Q : Option Value → gM → Prop} (N : Nat) (K : Nat) (M : gM) : ∀ n : Nat, (∀ (f : Nat → Nat → Int32) (a0 : Nat), Mo M a0 → vX9_readOrder N K M n 0 f a0 → Q none (g_wm M (wX9_readOrder N K M n 0 f a0).2 (g_ml M)) → Go X (d + K + 5) mc ms kX9_readOrder Q 36 [(0, .ref a0)] [] (g_wm M f (g_ml M)) 0 0) ∧ (∀ (f : Nat → Nat → Int32) (a0 : Nat), Mo M a0 → vX9_readOrder N K M n 1 f a0 → Q none (g_wm M (wX9_readOrder N K M n 1 f a0).2 (g_ml M)) → Go X (d + K + 5) mc ms kX9_readOrder Q 50 [(0, .ref a0)] [] (g_wm M f (g_ml M)) 0 0) ∧ (∀ (f : Nat → Nat → Int32) (a0 : Nat), Mo M a0 → vX9_readOrder N K M n 2 f a0 → Q none (g_wm M (wX9_readOrder N K M n 2 f a0).2 (g_ml M)) → Go X (d + K + 5) mc ms kX9_readOrder Q 66 [(0, .ref a0)] [] (g_wm M f (g_ml M)) 0 0) ∧ (∀ (f : Nat → Nat → Int32) (a0 : Nat), vX9_readOrder N K M n 3 f a0 → Q none (g_wm M (wX9_readOrder N K M n 3 f a0).2 (g_ml M)) → Go X (d + K + 5) mc ms kX9_readOrder Q 79 [] [] (g_wm M f (g_ml M)) 0 0) := by
  intro n
  induction n with
  | zero => exact ⟨fun _ _ _ h _ => h.elim, fun _ _ _ h _ => h.elim, fun _ _ _ h _ => h.elim, fun _ _  h _ => h.elim⟩
  | succ n ih =>
    refine ⟨?_, ?_, ?_, ?_⟩
    · intro f a0 s0 hT hQ
      rw [vX9_readOrder, if_pos (show (0 : Nat) = 0 from rfl)] at hT
      rw [wX9_readOrder, if_pos (show (0 : Nat) = 0 from rfl)] at hQ
      unfold bX9_readOrder_36 at hQ
      unfold eX9_readOrder_36 at hT
      obtain ⟨b3, hT⟩ := hT
      exact sX9_readOrder_36 (M := (g_wm M f (g_ml M))) (Mo.sm Sm.wm s0) (Nat.zero_le _) (Nat.zero_le _) b3 (Sm.g (Sm.tr Sm.wm (Sm.tr Sm.rf jX9_readSum)) (ih.2.1 _ _ (s0) hT hQ))
    · intro f a0 s0 hT hQ
      rw [vX9_readOrder, if_neg (show ¬ (1 : Nat) = 0 by decide), if_pos (show (1 : Nat) = 1 from rfl)] at hT
      rw [wX9_readOrder, if_neg (show ¬ (1 : Nat) = 0 by decide), if_pos (show (1 : Nat) = 1 from rfl)] at hQ
      unfold bX9_readOrder_50 at hQ
      unfold eX9_readOrder_50 at hT
      obtain ⟨b3, b5, hT⟩ := hT
      exact sX9_readOrder_50 (M := (g_wm M f (g_ml M))) (Mo.sm Sm.wm s0) (Nat.zero_le _) (Nat.zero_le _) b3 (fun c1 => by simp only [if_pos c1] at hQ hT; exact Sm.g (Sm.tr Sm.wm (Sm.tr Sm.rf jX9_takes0)) (ih.2.2.1 _ _ (s0) hT hQ)) b5 (fun c1 => by simp only [if_neg c1] at hQ hT; exact Sm.g (Sm.tr Sm.wm (Sm.tr (Sm.tr Sm.rf jX9_takes0) jX9_mustNumber)) (ih.2.2.1 _ _ (s0) hT hQ))
    · intro f a0 s0 hT hQ
      rw [vX9_readOrder, if_neg (show ¬ (2 : Nat) = 0 by decide), if_neg (show ¬ (2 : Nat) = 1 by decide), if_pos (show (2 : Nat) = 2 from rfl)] at hT
      rw [wX9_readOrder, if_neg (show ¬ (2 : Nat) = 0 by decide), if_neg (show ¬ (2 : Nat) = 1 by decide), if_pos (show (2 : Nat) = 2 from rfl)] at hQ
      unfold bX9_readOrder_66 at hQ
      unfold eX9_readOrder_66 at hT
      obtain ⟨b3, b5, hT⟩ := hT
      exact sX9_readOrder_66 (M := (g_wm M f (g_ml M))) (Mo.sm Sm.wm s0) (Nat.zero_le _) (Nat.zero_le _) b3 (fun c1 => by simp only [if_pos c1] at hQ hT; exact Sm.g (Sm.tr Sm.wm (Sm.tr Sm.rf jX9_takes0)) (ih.2.2.2 _ _  hT hQ)) b5 (fun c1 => by simp only [if_neg c1] at hQ hT; exact Sm.g (Sm.tr Sm.wm (Sm.tr (Sm.tr Sm.rf jX9_takes0) jX9_readTest)) (ih.2.2.2 _ _  hT hQ))
    · intro f a0 hT hQ
      rw [vX9_readOrder, if_neg (show ¬ (3 : Nat) = 0 by decide), if_neg (show ¬ (3 : Nat) = 1 by decide), if_neg (show ¬ (3 : Nat) = 2 by decide)] at hT
      rw [wX9_readOrder, if_neg (show ¬ (3 : Nat) = 0 by decide), if_neg (show ¬ (3 : Nat) = 1 by decide), if_neg (show ¬ (3 : Nat) = 2 by decide)] at hQ
      unfold bX9_readOrder_79 at hQ
      unfold eX9_readOrder_79 at hT
      exact sX9_readOrder_79 (M := (g_wm M f (g_ml M))) (Sm.q Sm.wm hQ) (Nat.zero_le _) (Nat.zero_le _)
def mX9_readOrder (N : Nat) (K : Nat) (M : gM) (a0 : Nat) : gM := g_wm M (bX9_readOrder_0 N K M a0 (wX9_readOrder N K M N)).2 (g_ml M)
theorem jX9_readOrder {N : Nat} {K : Nat} {M : gM} {a0 : Nat} : Sm M (mX9_readOrder N K M a0) := Sm.wm
def EX9_readOrder (N : Nat) (K : Nat) (M : gM) (a0 : Nat) : Prop := eX9_readOrder_0 N K M a0 (vX9_readOrder N K M N)
theorem tX9_readOrder {N : Nat} {K : Nat} {X : gX} {d mc ms : Nat} {Q : Option Value → gM → Prop} {M : gM} {a0 : Nat} (s0 : Mo M a0) (hE : EX9_readOrder N K M a0) (hQ : Q none (mX9_readOrder N K M a0)) : Cn X (d + K + 5) mc ms kX9_readOrder [.ref a0] M Q := by
  unfold mX9_readOrder at hQ
  unfold bX9_readOrder_0 at hQ
  unfold EX9_readOrder eX9_readOrder_0 at hE
  obtain ⟨b1, b3, b5, b7, b8, hT⟩ := hE
  have ih := lpX9_readOrder (X := X) (d := d) (mc := mc) (ms := ms) (Q := Q) N K M N
  exact sX9_readOrder_0 s0 b1 (fun c1 => by simp only [if_neg c1] at hQ hT; exact Sm.g (Sm.tr Sm.rf jX9_takes0) (ih.1 _ _ (s0) hT hQ)) b3 (fun c1 c2 => by simp only [if_pos c1, if_neg c2] at hQ hT; exact Sm.g (Sm.tr (Sm.tr Sm.rf jX9_takes0) jX9_takes0) (ih.1 _ _ (s0) hT hQ)) b5 (fun c1 c2 c3 => by simp only [if_pos c1, if_pos c2, if_neg c3] at hQ hT; exact Sm.g (Sm.tr (Sm.tr (Sm.tr Sm.rf jX9_takes0) jX9_takes0) jX9_takes0) (ih.1 _ _ (s0) hT hQ)) b7 b8 (fun c1 c2 c3 c4 => by simp only [if_pos c1, if_pos c2, if_pos c3, if_pos c4] at hQ hT; exact Sm.g (Sm.tr (Sm.tr (Sm.tr (Sm.tr (Sm.tr Sm.rf jX9_takes0) jX9_takes0) jX9_takes0) jX9_takes0) jX9_must) (ih.2.1 _ _ (s0) hT hQ)) (fun c1 c2 c3 c4 => by simp only [if_pos c1, if_pos c2, if_pos c3, if_neg c4] at hQ hT; exact Sm.g (Sm.tr (Sm.tr (Sm.tr (Sm.tr Sm.rf jX9_takes0) jX9_takes0) jX9_takes0) jX9_takes0) (ih.1 _ _ (s0) hT hQ))
/-! X9_readOne  -/
set_option maxRecDepth 4000 in
theorem sX9_readOne_0 {N : Nat} {K : Nat} {X : gX} {d mc ms : Nat} {Q : Option Value → gM → Prop} {M : gM} {a0 : Nat} (s0 : Mo M a0) (b1 : ((g_mi M a0 10) = 0) → EX9_readClause N K M a0) (h2 : ((g_mi M a0 10) = 0) → Q none (mX9_readClause N K M a0)) (b3 : (¬ (g_mi M a0 10) = 0) → EX9_readOrder N K M a0) (h4 : (¬ (g_mi M a0 10) = 0) → Q none (mX9_readOrder N K M a0)) : Cn X (d + K + 6) mc ms kX9_readOne [.ref a0] M Q := by
  refine g_meth rfl rfl (Nat.le_of_ble_eq_true rfl) rfl ?_
  refine g_aload_n 0 1 dX9_readOne_0 rfl rfl ?_
  refine g_getI 4 dX9_readOne_1 rfl flX9_212 s0.1 ?_
  refine g_if_eq 14 7 dX9_readOne_4 rfl rfl (fun c1 => ?_) (fun c1 => ?_)
  · skip
    refine g_aload_n 0 15 dX9_readOne_14 rfl rfl ?_
    refine g_callV (mc1 := 0) (ms1 := 0) (b := a0) (rest := []) (av := []) kX9_readClause 18 dX9_readOne_15 rfl rfl mbX9_219 imX9_readClause seX9_readClause gcl9.1 s0.1 (Nat.le_of_ble_eq_true rfl) (Nat.zero_le _) (Nat.zero_le _) (tX9_readClause (N := N) (K := K) s0 (b1 c1) ?_)
    show Go X (d + K + 6) mc ms kX9_readOne Q 18 [(0, .ref a0)] [] (mX9_readClause N K M a0) 0 0
    exact g_vret dX9_readOne_18 rfl (Nat.zero_le _) (Nat.zero_le _) (h2 c1)
  · skip
    refine g_aload_n 0 8 dX9_readOne_7 rfl rfl ?_
    refine g_callV (mc1 := 0) (ms1 := 0) (b := a0) (rest := []) (av := []) kX9_readOrder 11 dX9_readOne_8 rfl rfl mbX9_216 imX9_readOrder seX9_readOrder gcl9.1 s0.1 (Nat.le_of_ble_eq_true rfl) (Nat.zero_le _) (Nat.zero_le _) (tX9_readOrder (N := N) (K := K) s0 (b3 c1) ?_)
    show Go X (d + K + 6) mc ms kX9_readOne Q 11 [(0, .ref a0)] [] (mX9_readOrder N K M a0) 0 0
    refine g_goto 18 dX9_readOne_11 rfl ?_
    exact g_vret dX9_readOne_18 rfl (Nat.zero_le _) (Nat.zero_le _) (h4 c1)

def mX9_readOne (N : Nat) (K : Nat) (M : gM) (a0 : Nat) : gM := g_wm M (if (g_mi M a0 10) = 0 then (g_mi (mX9_readClause N K M a0)) else (g_mi (mX9_readOrder N K M a0))) (g_ml M)
def EX9_readOne (N : Nat) (K : Nat) (M : gM) (a0 : Nat) : Prop := (((g_mi M a0 10) = 0) → EX9_readClause N K M a0) ∧ ((¬ (g_mi M a0 10) = 0) → EX9_readOrder N K M a0)
theorem jX9_readOne {N : Nat} {K : Nat} {M : gM} {a0 : Nat} : Sm M (mX9_readOne N K M a0) := Sm.wm
theorem tX9_readOne {N : Nat} {K : Nat} {X : gX} {d mc ms : Nat} {Q : Option Value → gM → Prop} {M : gM} {a0 : Nat} (s0 : Mo M a0) (hE : EX9_readOne N K M a0) (hQ : Q none (mX9_readOne N K M a0)) : Cn X (d + K + 6) mc ms kX9_readOne [.ref a0] M Q := by
  unfold mX9_readOne at hQ
  obtain ⟨b1, b3⟩ := hE
  exact sX9_readOne_0 s0 b1 (fun c1 => by simp only [if_pos c1] at hQ; exact Sm.q (Sm.tr Sm.rf jX9_readClause) hQ) b3 (fun c1 => by simp only [if_neg c1] at hQ; exact Sm.q (Sm.tr Sm.rf jX9_readOrder) hQ)
/-! X9_reads  -/
set_option maxRecDepth 4000 in
theorem sX9_reads_0 {N : Nat} {K : Nat} {X : gX} {d mc ms : Nat} {Q : Option Value → gM → Prop} {M : gM} {a0 : Nat} (s0 : Mo M a0) (b1 : EX9_splits N M a0 (g_mi M a0 13)) (b2 : EX9_readOne N K (g_wi (g_wi (g_wi (g_wi (mX9_splits N M a0 (g_mi M a0 13)) a0 13 0) a0 19 0) a0 20 0) a0 21 (-1)) a0) (h3 : Go X (d + K + 7) mc ms kX9_reads Q 34 [(0, .ref a0), (1, .int (1))] [] (mX9_readOne N K (g_wi (g_wi (g_wi (g_wi (mX9_splits N M a0 (g_mi M a0 13)) a0 13 0) a0 19 0) a0 20 0) a0 21 (-1)) a0) 0 0) : Cn X (d + K + 7) mc ms kX9_reads [.ref a0] M Q := by
  refine g_meth rfl rfl (Nat.le_of_ble_eq_true rfl) rfl ?_
  refine g_aload_n 0 1 dX9_reads_0 rfl rfl ?_
  refine g_aload_n 0 2 dX9_reads_1 rfl rfl ?_
  refine g_getI 5 dX9_reads_2 rfl flX9_157 s0.1 ?_
  refine g_callV (mc1 := 0) (ms1 := 0) (b := a0) (rest := []) (av := [.int ((g_mi M a0 13))]) kX9_splits 8 dX9_reads_5 rfl rfl mbX9_247 imX9_splits seX9_splits gcl9.1 s0.1 (Nat.le_of_ble_eq_true rfl) (Nat.zero_le _) (Nat.zero_le _) (tX9_splits (N := N) s0 (b1) ?_)
  show Go X (d + K + 7) mc ms kX9_reads Q 8 [(0, .ref a0)] [] (mX9_splits N M a0 (g_mi M a0 13)) 0 0
  refine g_aload_n 0 9 dX9_reads_8 rfl rfl ?_
  refine g_iconst (0) 10 dX9_reads_9 rfl rfl ?_
  refine g_putI 13 dX9_reads_10 rfl flX9_157 (Sm.k (Sm.tr Sm.rf jX9_splits) s0.1) ?_
  refine g_aload_n 0 14 dX9_reads_13 rfl rfl ?_
  refine g_iconst (0) 15 dX9_reads_14 rfl rfl ?_
  refine g_putI 18 dX9_reads_15 rfl flX9_186 (Sm.k (Sm.wi (Sm.tr Sm.rf jX9_splits)) s0.1) ?_
  refine g_aload_n 0 19 dX9_reads_18 rfl rfl ?_
  refine g_iconst (0) 20 dX9_reads_19 rfl rfl ?_
  refine g_putI 23 dX9_reads_20 rfl flX9_195 (Sm.k (Sm.wi (Sm.wi (Sm.tr Sm.rf jX9_splits))) s0.1) ?_
  refine g_aload_n 0 24 dX9_reads_23 rfl rfl ?_
  refine g_iconst ((-1)) 25 dX9_reads_24 rfl rfl ?_
  refine g_putI 28 dX9_reads_25 rfl flX9_179 (Sm.k (Sm.wi (Sm.wi (Sm.wi (Sm.tr Sm.rf jX9_splits)))) s0.1) ?_
  refine g_aload_n 0 29 dX9_reads_28 rfl rfl ?_
  refine g_callV (mc1 := 0) (ms1 := 0) (b := a0) (rest := []) (av := []) kX9_readOne 32 dX9_reads_29 rfl rfl mbX9_250 imX9_readOne seX9_readOne gcl9.1 (Sm.k (Sm.wi (Sm.wi (Sm.wi (Sm.wi (Sm.tr Sm.rf jX9_splits))))) s0.1) (Nat.le_of_ble_eq_true rfl) (Nat.zero_le _) (Nat.zero_le _) (tX9_readOne (N := N) (K := K) (Mo.sm (Sm.wi (Sm.wi (Sm.wi (Sm.wi (Sm.tr Sm.rf jX9_splits))))) s0) (b2) ?_)
  show Go X (d + K + 7) mc ms kX9_reads Q 32 [(0, .ref a0)] [] (mX9_readOne N K (g_wi (g_wi (g_wi (g_wi (mX9_splits N M a0 (g_mi M a0 13)) a0 13 0) a0 19 0) a0 20 0) a0 21 (-1)) a0) 0 0
  refine g_iconst (1) 33 dX9_reads_32 rfl rfl ?_
  refine g_istore_n 34 [(1, .int (1)), (0, .ref a0)] dX9_reads_33 rfl (Nat.le_of_ble_eq_true rfl) rfl ?_
  exact g_sub [1, 0] _ rfl (h3)

set_option maxRecDepth 4000 in
theorem sX9_reads_34 {N : Nat} {K : Nat} {X : gX} {d mc ms : Nat} {Q : Option Value → gM → Prop} {M : gM} {c z : Nat} {a0 : Nat} {x1 : Int32} (s0 : Mo M a0) (w1 : c ≤ mc) (w2 : z ≤ ms) (b3 : EX9_takes0 M a0 (fX9_sign 59)) (h4 : ((fX9_takes0 M a0 (fX9_sign 59)) = 0) → ((fX9_fine (mX9_takes0 M a0 (fX9_sign 59)) a0) = 0) → Q (some (.int ((fX9_fine (g_wi (mX9_takes0 M a0 (fX9_sign 59)) a0 14 (g_mi (mX9_takes0 M a0 (fX9_sign 59)) a0 21)) a0)))) (g_wi (mX9_takes0 M a0 (fX9_sign 59)) a0 14 (g_mi (mX9_takes0 M a0 (fX9_sign 59)) a0 21))) (b5 : ((fX9_takes0 M a0 (fX9_sign 59)) = 0) → ((fX9_fine (mX9_takes0 M a0 (fX9_sign 59)) a0) = 0) → (fX9_fine (g_wi (mX9_takes0 M a0 (fX9_sign 59)) a0 14 (g_mi (mX9_takes0 M a0 (fX9_sign 59)) a0 21)) a0) = 0 ∨ (fX9_fine (g_wi (mX9_takes0 M a0 (fX9_sign 59)) a0 14 (g_mi (mX9_takes0 M a0 (fX9_sign 59)) a0 21)) a0) = 1) (h6 : ((fX9_takes0 M a0 (fX9_sign 59)) = 0) → (¬ (fX9_fine (mX9_takes0 M a0 (fX9_sign 59)) a0) = 0) → ((g_mi (mX9_takes0 M a0 (fX9_sign 59)) a0 18) ≤ (g_mi (mX9_takes0 M a0 (fX9_sign 59)) a0 19)) → Q (some (.int ((fX9_fine (g_wi (mX9_takes0 M a0 (fX9_sign 59)) a0 14 (g_mi (mX9_takes0 M a0 (fX9_sign 59)) a0 21)) a0)))) (g_wi (mX9_takes0 M a0 (fX9_sign 59)) a0 14 (g_mi (mX9_takes0 M a0 (fX9_sign 59)) a0 21))) (b7 : ((fX9_takes0 M a0 (fX9_sign 59)) = 0) → (¬ (fX9_fine (mX9_takes0 M a0 (fX9_sign 59)) a0) = 0) → ((g_mi (mX9_takes0 M a0 (fX9_sign 59)) a0 18) ≤ (g_mi (mX9_takes0 M a0 (fX9_sign 59)) a0 19)) → (fX9_fine (g_wi (mX9_takes0 M a0 (fX9_sign 59)) a0 14 (g_mi (mX9_takes0 M a0 (fX9_sign 59)) a0 21)) a0) = 0 ∨ (fX9_fine (g_wi (mX9_takes0 M a0 (fX9_sign 59)) a0 14 (g_mi (mX9_takes0 M a0 (fX9_sign 59)) a0 21)) a0) = 1) (b8 : ((fX9_takes0 M a0 (fX9_sign 59)) = 0) → (¬ (fX9_fine (mX9_takes0 M a0 (fX9_sign 59)) a0) = 0) → (¬ (g_mi (mX9_takes0 M a0 (fX9_sign 59)) a0 18) ≤ (g_mi (mX9_takes0 M a0 (fX9_sign 59)) a0 19)) → EX9_faults (mX9_takes0 M a0 (fX9_sign 59)) a0) (h9 : ((fX9_takes0 M a0 (fX9_sign 59)) = 0) → (¬ (fX9_fine (mX9_takes0 M a0 (fX9_sign 59)) a0) = 0) → (¬ (g_mi (mX9_takes0 M a0 (fX9_sign 59)) a0 18) ≤ (g_mi (mX9_takes0 M a0 (fX9_sign 59)) a0 19)) → Q (some (.int ((fX9_fine (g_wi (mX9_faults (mX9_takes0 M a0 (fX9_sign 59)) a0) a0 14 (g_mi (mX9_faults (mX9_takes0 M a0 (fX9_sign 59)) a0) a0 21)) a0)))) (g_wi (mX9_faults (mX9_takes0 M a0 (fX9_sign 59)) a0) a0 14 (g_mi (mX9_faults (mX9_takes0 M a0 (fX9_sign 59)) a0) a0 21))) (b10 : ((fX9_takes0 M a0 (fX9_sign 59)) = 0) → (¬ (fX9_fine (mX9_takes0 M a0 (fX9_sign 59)) a0) = 0) → (¬ (g_mi (mX9_takes0 M a0 (fX9_sign 59)) a0 18) ≤ (g_mi (mX9_takes0 M a0 (fX9_sign 59)) a0 19)) → (fX9_fine (g_wi (mX9_faults (mX9_takes0 M a0 (fX9_sign 59)) a0) a0 14 (g_mi (mX9_faults (mX9_takes0 M a0 (fX9_sign 59)) a0) a0 21)) a0) = 0 ∨ (fX9_fine (g_wi (mX9_faults (mX9_takes0 M a0 (fX9_sign 59)) a0) a0 14 (g_mi (mX9_faults (mX9_takes0 M a0 (fX9_sign 59)) a0) a0 21)) a0) = 1) (h11 : (¬ (fX9_takes0 M a0 (fX9_sign 59)) = 0) → (¬ x1 = 12) → ((fX9_fine (mX9_takes0 M a0 (fX9_sign 59)) a0) = 0) → Go X (d + K + 7) mc ms kX9_reads Q 34 [(0, .ref a0), (1, .int ((x1 + 1)))] [] (mX9_takes0 M a0 (fX9_sign 59)) c z) (b12 : (¬ (fX9_takes0 M a0 (fX9_sign 59)) = 0) → (¬ x1 = 12) → (¬ (fX9_fine (mX9_takes0 M a0 (fX9_sign 59)) a0) = 0) → EX9_readOne N K (mX9_takes0 M a0 (fX9_sign 59)) a0) (h13 : (¬ (fX9_takes0 M a0 (fX9_sign 59)) = 0) → (¬ x1 = 12) → (¬ (fX9_fine (mX9_takes0 M a0 (fX9_sign 59)) a0) = 0) → Go X (d + K + 7) mc ms kX9_reads Q 34 [(0, .ref a0), (1, .int ((x1 + 1)))] [] (mX9_readOne N K (mX9_takes0 M a0 (fX9_sign 59)) a0) c z) (b14 : (¬ (fX9_takes0 M a0 (fX9_sign 59)) = 0) → (x1 = 12) → EX9_faults (mX9_takes0 M a0 (fX9_sign 59)) a0) (h15 : (¬ (fX9_takes0 M a0 (fX9_sign 59)) = 0) → (x1 = 12) → ((fX9_fine (mX9_faults (mX9_takes0 M a0 (fX9_sign 59)) a0) a0) = 0) → Go X (d + K + 7) mc ms kX9_reads Q 34 [(0, .ref a0), (1, .int ((x1 + 1)))] [] (mX9_faults (mX9_takes0 M a0 (fX9_sign 59)) a0) c z) (b16 : (¬ (fX9_takes0 M a0 (fX9_sign 59)) = 0) → (x1 = 12) → (¬ (fX9_fine (mX9_faults (mX9_takes0 M a0 (fX9_sign 59)) a0) a0) = 0) → EX9_readOne N K (mX9_faults (mX9_takes0 M a0 (fX9_sign 59)) a0) a0) (h17 : (¬ (fX9_takes0 M a0 (fX9_sign 59)) = 0) → (x1 = 12) → (¬ (fX9_fine (mX9_faults (mX9_takes0 M a0 (fX9_sign 59)) a0) a0) = 0) → Go X (d + K + 7) mc ms kX9_reads Q 34 [(0, .ref a0), (1, .int ((x1 + 1)))] [] (mX9_readOne N K (mX9_faults (mX9_takes0 M a0 (fX9_sign 59)) a0) a0) c z) : Go X (d + K + 7) mc ms kX9_reads Q 34 [(0, .ref a0), (1, .int (x1))] [] M c z := by
  refine g_aload_n 0 35 dX9_reads_34 rfl rfl ?_
  refine g_bipush (59) 37 dX9_reads_35 rfl rfl ?_
  refine g_callS (mc1 := 0) (ms1 := 0) (rest := [.ref a0]) (av := [.int (59)]) kX9_sign 40 dX9_reads_37 rfl rfl mbX9_228 smX9_sign (Nat.le_of_ble_eq_true rfl) (w1) (w2) (tX9_sign  ?_)
  show Go X (d + K + 7) mc ms kX9_reads Q 40 [(0, .ref a0), (1, .int (x1))] [.int ((fX9_sign 59)), .ref a0] M c z
  refine g_callV (mc1 := 0) (ms1 := 0) (b := a0) (rest := []) (av := [.int ((fX9_sign 59))]) kX9_takes0 43 dX9_reads_40 rfl rfl mbX9_189 imX9_takes0 seX9_takes0 gcl9.1 s0.1 (Nat.le_of_ble_eq_true rfl) (w1) (w2) (tX9_takes0 s0 (b3) ?_)
  show Go X (d + K + 7) mc ms kX9_reads Q 43 [(0, .ref a0), (1, .int (x1))] [.int ((fX9_takes0 M a0 (fX9_sign 59)))] (mX9_takes0 M a0 (fX9_sign 59)) c z
  refine g_if_eq 73 46 dX9_reads_43 rfl rfl (fun c1 => ?_) (fun c1 => ?_)
  · skip
    refine g_aload_n 0 74 dX9_reads_73 rfl rfl ?_
    refine g_callV (mc1 := 0) (ms1 := 0) (b := a0) (rest := []) (av := []) kX9_fine 77 dX9_reads_74 rfl rfl mbX9_182 imX9_fine seX9_fine gcl9.1 (Sm.k (Sm.tr Sm.rf jX9_takes0) s0.1) (Nat.le_of_ble_eq_true rfl) (w1) (w2) (tX9_fine (Mo.sm (Sm.tr Sm.rf jX9_takes0) s0) ?_)
    show Go X (d + K + 7) mc ms kX9_reads Q 77 [(0, .ref a0), (1, .int (x1))] [.int ((fX9_fine (mX9_takes0 M a0 (fX9_sign 59)) a0))] (mX9_takes0 M a0 (fX9_sign 59)) c z
    refine g_if_eq 95 80 dX9_reads_77 rfl rfl (fun c2 => ?_) (fun c2 => ?_)
    · skip
      refine g_aload_n 0 96 dX9_reads_95 rfl rfl ?_
      refine g_aload_n 0 97 dX9_reads_96 rfl rfl ?_
      refine g_getI 100 dX9_reads_97 rfl flX9_179 (Sm.k (Sm.tr Sm.rf jX9_takes0) s0.1) ?_
      refine g_putI 103 dX9_reads_100 rfl flX9_51 (Sm.k (Sm.tr Sm.rf jX9_takes0) s0.1) ?_
      refine g_aload_n 0 104 dX9_reads_103 rfl rfl ?_
      refine g_callV (mc1 := 0) (ms1 := 0) (b := a0) (rest := []) (av := []) kX9_fine 107 dX9_reads_104 rfl rfl mbX9_182 imX9_fine seX9_fine gcl9.1 (Sm.k (Sm.wi (Sm.tr Sm.rf jX9_takes0)) s0.1) (Nat.le_of_ble_eq_true rfl) (w1) (w2) (tX9_fine (Mo.sm (Sm.wi (Sm.tr Sm.rf jX9_takes0)) s0) ?_)
      show Go X (d + K + 7) mc ms kX9_reads Q 107 [(0, .ref a0), (1, .int (x1))] [.int ((fX9_fine (g_wi (mX9_takes0 M a0 (fX9_sign 59)) a0 14 (g_mi (mX9_takes0 M a0 (fX9_sign 59)) a0 21)) a0))] (g_wi (mX9_takes0 M a0 (fX9_sign 59)) a0 14 (g_mi (mX9_takes0 M a0 (fX9_sign 59)) a0 21)) c z
      exact g_zret dX9_reads_107 rfl (b5 c1 c2) (w1) (w2) (h4 c1 c2)
    · skip
      refine g_aload_n 0 81 dX9_reads_80 rfl rfl ?_
      refine g_getI 84 dX9_reads_81 rfl flX9_186 (Sm.k (Sm.tr Sm.rf jX9_takes0) s0.1) ?_
      refine g_aload_n 0 85 dX9_reads_84 rfl rfl ?_
      refine g_getI 88 dX9_reads_85 rfl flX9_166 (Sm.k (Sm.tr Sm.rf jX9_takes0) s0.1) ?_
      refine g_icmp_ge 95 91 dX9_reads_88 rfl rfl (fun c3 => ?_) (fun c3 => ?_)
      · skip
        refine g_aload_n 0 96 dX9_reads_95 rfl rfl ?_
        refine g_aload_n 0 97 dX9_reads_96 rfl rfl ?_
        refine g_getI 100 dX9_reads_97 rfl flX9_179 (Sm.k (Sm.tr Sm.rf jX9_takes0) s0.1) ?_
        refine g_putI 103 dX9_reads_100 rfl flX9_51 (Sm.k (Sm.tr Sm.rf jX9_takes0) s0.1) ?_
        refine g_aload_n 0 104 dX9_reads_103 rfl rfl ?_
        refine g_callV (mc1 := 0) (ms1 := 0) (b := a0) (rest := []) (av := []) kX9_fine 107 dX9_reads_104 rfl rfl mbX9_182 imX9_fine seX9_fine gcl9.1 (Sm.k (Sm.wi (Sm.tr Sm.rf jX9_takes0)) s0.1) (Nat.le_of_ble_eq_true rfl) (w1) (w2) (tX9_fine (Mo.sm (Sm.wi (Sm.tr Sm.rf jX9_takes0)) s0) ?_)
        show Go X (d + K + 7) mc ms kX9_reads Q 107 [(0, .ref a0), (1, .int (x1))] [.int ((fX9_fine (g_wi (mX9_takes0 M a0 (fX9_sign 59)) a0 14 (g_mi (mX9_takes0 M a0 (fX9_sign 59)) a0 21)) a0))] (g_wi (mX9_takes0 M a0 (fX9_sign 59)) a0 14 (g_mi (mX9_takes0 M a0 (fX9_sign 59)) a0 21)) c z
        exact g_zret dX9_reads_107 rfl (b7 c1 c2 c3) (w1) (w2) (h6 c1 c2 c3)
      · skip
        refine g_aload_n 0 92 dX9_reads_91 rfl rfl ?_
        refine g_callV (mc1 := 0) (ms1 := 0) (b := a0) (rest := []) (av := []) kX9_faults 95 dX9_reads_92 rfl rfl mbX9_192 imX9_faults seX9_faults gcl9.1 (Sm.k (Sm.tr Sm.rf jX9_takes0) s0.1) (Nat.le_of_ble_eq_true rfl) (w1) (w2) (tX9_faults (Mo.sm (Sm.tr Sm.rf jX9_takes0) s0) (b8 c1 c2 c3) ?_)
        show Go X (d + K + 7) mc ms kX9_reads Q 95 [(0, .ref a0), (1, .int (x1))] [] (mX9_faults (mX9_takes0 M a0 (fX9_sign 59)) a0) c z
        refine g_aload_n 0 96 dX9_reads_95 rfl rfl ?_
        refine g_aload_n 0 97 dX9_reads_96 rfl rfl ?_
        refine g_getI 100 dX9_reads_97 rfl flX9_179 (Sm.k (Sm.tr (Sm.tr Sm.rf jX9_takes0) jX9_faults) s0.1) ?_
        refine g_putI 103 dX9_reads_100 rfl flX9_51 (Sm.k (Sm.tr (Sm.tr Sm.rf jX9_takes0) jX9_faults) s0.1) ?_
        refine g_aload_n 0 104 dX9_reads_103 rfl rfl ?_
        refine g_callV (mc1 := 0) (ms1 := 0) (b := a0) (rest := []) (av := []) kX9_fine 107 dX9_reads_104 rfl rfl mbX9_182 imX9_fine seX9_fine gcl9.1 (Sm.k (Sm.wi (Sm.tr (Sm.tr Sm.rf jX9_takes0) jX9_faults)) s0.1) (Nat.le_of_ble_eq_true rfl) (w1) (w2) (tX9_fine (Mo.sm (Sm.wi (Sm.tr (Sm.tr Sm.rf jX9_takes0) jX9_faults)) s0) ?_)
        show Go X (d + K + 7) mc ms kX9_reads Q 107 [(0, .ref a0), (1, .int (x1))] [.int ((fX9_fine (g_wi (mX9_faults (mX9_takes0 M a0 (fX9_sign 59)) a0) a0 14 (g_mi (mX9_faults (mX9_takes0 M a0 (fX9_sign 59)) a0) a0 21)) a0))] (g_wi (mX9_faults (mX9_takes0 M a0 (fX9_sign 59)) a0) a0 14 (g_mi (mX9_faults (mX9_takes0 M a0 (fX9_sign 59)) a0) a0 21)) c z
        exact g_zret dX9_reads_107 rfl (b10 c1 c2 c3) (w1) (w2) (h9 c1 c2 c3)
  · skip
    refine g_iload_n 1 47 dX9_reads_46 rfl rfl ?_
    refine g_bipush (12) 49 dX9_reads_47 rfl rfl ?_
    refine g_icmp_ne 56 52 dX9_reads_49 rfl rfl (fun c4 => ?_) (fun c4 => ?_)
    · skip
      refine g_aload_n 0 57 dX9_reads_56 rfl rfl ?_
      refine g_callV (mc1 := 0) (ms1 := 0) (b := a0) (rest := []) (av := []) kX9_fine 60 dX9_reads_57 rfl rfl mbX9_182 imX9_fine seX9_fine gcl9.1 (Sm.k (Sm.tr Sm.rf jX9_takes0) s0.1) (Nat.le_of_ble_eq_true rfl) (w1) (w2) (tX9_fine (Mo.sm (Sm.tr Sm.rf jX9_takes0) s0) ?_)
      show Go X (d + K + 7) mc ms kX9_reads Q 60 [(0, .ref a0), (1, .int (x1))] [.int ((fX9_fine (mX9_takes0 M a0 (fX9_sign 59)) a0))] (mX9_takes0 M a0 (fX9_sign 59)) c z
      refine g_if_eq 67 63 dX9_reads_60 rfl rfl (fun c5 => ?_) (fun c5 => ?_)
      · skip
        refine g_iinc _ 1 70 [(1, .int ((x1 + 1))), (0, .ref a0)] dX9_reads_67 rfl rfl rfl (Nat.le_of_ble_eq_true rfl) rfl ?_
        refine g_goto 34 dX9_reads_70 rfl ?_
        exact g_sub [1, 0] _ rfl (h11 c1 c4 c5)
      · skip
        refine g_aload_n 0 64 dX9_reads_63 rfl rfl ?_
        refine g_callV (mc1 := 0) (ms1 := 0) (b := a0) (rest := []) (av := []) kX9_readOne 67 dX9_reads_64 rfl rfl mbX9_250 imX9_readOne seX9_readOne gcl9.1 (Sm.k (Sm.tr Sm.rf jX9_takes0) s0.1) (Nat.le_of_ble_eq_true rfl) (w1) (w2) (tX9_readOne (N := N) (K := K) (Mo.sm (Sm.tr Sm.rf jX9_takes0) s0) (b12 c1 c4 c5) ?_)
        show Go X (d + K + 7) mc ms kX9_reads Q 67 [(0, .ref a0), (1, .int (x1))] [] (mX9_readOne N K (mX9_takes0 M a0 (fX9_sign 59)) a0) c z
        refine g_iinc _ 1 70 [(1, .int ((x1 + 1))), (0, .ref a0)] dX9_reads_67 rfl rfl rfl (Nat.le_of_ble_eq_true rfl) rfl ?_
        refine g_goto 34 dX9_reads_70 rfl ?_
        exact g_sub [1, 0] _ rfl (h13 c1 c4 c5)
    · skip
      refine g_aload_n 0 53 dX9_reads_52 rfl rfl ?_
      refine g_callV (mc1 := 0) (ms1 := 0) (b := a0) (rest := []) (av := []) kX9_faults 56 dX9_reads_53 rfl rfl mbX9_192 imX9_faults seX9_faults gcl9.1 (Sm.k (Sm.tr Sm.rf jX9_takes0) s0.1) (Nat.le_of_ble_eq_true rfl) (w1) (w2) (tX9_faults (Mo.sm (Sm.tr Sm.rf jX9_takes0) s0) (b14 c1 c4) ?_)
      show Go X (d + K + 7) mc ms kX9_reads Q 56 [(0, .ref a0), (1, .int (x1))] [] (mX9_faults (mX9_takes0 M a0 (fX9_sign 59)) a0) c z
      refine g_aload_n 0 57 dX9_reads_56 rfl rfl ?_
      refine g_callV (mc1 := 0) (ms1 := 0) (b := a0) (rest := []) (av := []) kX9_fine 60 dX9_reads_57 rfl rfl mbX9_182 imX9_fine seX9_fine gcl9.1 (Sm.k (Sm.tr (Sm.tr Sm.rf jX9_takes0) jX9_faults) s0.1) (Nat.le_of_ble_eq_true rfl) (w1) (w2) (tX9_fine (Mo.sm (Sm.tr (Sm.tr Sm.rf jX9_takes0) jX9_faults) s0) ?_)
      show Go X (d + K + 7) mc ms kX9_reads Q 60 [(0, .ref a0), (1, .int (x1))] [.int ((fX9_fine (mX9_faults (mX9_takes0 M a0 (fX9_sign 59)) a0) a0))] (mX9_faults (mX9_takes0 M a0 (fX9_sign 59)) a0) c z
      refine g_if_eq 67 63 dX9_reads_60 rfl rfl (fun c6 => ?_) (fun c6 => ?_)
      · skip
        refine g_iinc _ 1 70 [(1, .int ((x1 + 1))), (0, .ref a0)] dX9_reads_67 rfl rfl rfl (Nat.le_of_ble_eq_true rfl) rfl ?_
        refine g_goto 34 dX9_reads_70 rfl ?_
        exact g_sub [1, 0] _ rfl (h15 c1 c4 c6)
      · skip
        refine g_aload_n 0 64 dX9_reads_63 rfl rfl ?_
        refine g_callV (mc1 := 0) (ms1 := 0) (b := a0) (rest := []) (av := []) kX9_readOne 67 dX9_reads_64 rfl rfl mbX9_250 imX9_readOne seX9_readOne gcl9.1 (Sm.k (Sm.tr (Sm.tr Sm.rf jX9_takes0) jX9_faults) s0.1) (Nat.le_of_ble_eq_true rfl) (w1) (w2) (tX9_readOne (N := N) (K := K) (Mo.sm (Sm.tr (Sm.tr Sm.rf jX9_takes0) jX9_faults) s0) (b16 c1 c4 c6) ?_)
        show Go X (d + K + 7) mc ms kX9_reads Q 67 [(0, .ref a0), (1, .int (x1))] [] (mX9_readOne N K (mX9_faults (mX9_takes0 M a0 (fX9_sign 59)) a0) a0) c z
        refine g_iinc _ 1 70 [(1, .int ((x1 + 1))), (0, .ref a0)] dX9_reads_67 rfl rfl rfl (Nat.le_of_ble_eq_true rfl) rfl ?_
        refine g_goto 34 dX9_reads_70 rfl ?_
        exact g_sub [1, 0] _ rfl (h17 c1 c4 c6)

def bX9_reads_0 (N : Nat) (K : Nat) (M : gM) (a0 : Nat) (k : Nat → (Nat → Nat → Int32) → Nat → Int32 → Int32 × (Nat → Nat → Int32)) : Int32 × (Nat → Nat → Int32) := (k 0 (g_mi (mX9_readOne N K (g_wi (g_wi (g_wi (g_wi (mX9_splits N M a0 (g_mi M a0 13)) a0 13 0) a0 19 0) a0 20 0) a0 21 (-1)) a0)) a0 1)
def eX9_reads_0 (N : Nat) (K : Nat) (M : gM) (a0 : Nat) (k : Nat → (Nat → Nat → Int32) → Nat → Int32 → Prop) : Prop := (EX9_splits N M a0 (g_mi M a0 13)) ∧ (EX9_readOne N K (g_wi (g_wi (g_wi (g_wi (mX9_splits N M a0 (g_mi M a0 13)) a0 13 0) a0 19 0) a0 20 0) a0 21 (-1)) a0) ∧ (k 0 (g_mi (mX9_readOne N K (g_wi (g_wi (g_wi (g_wi (mX9_splits N M a0 (g_mi M a0 13)) a0 13 0) a0 19 0) a0 20 0) a0 21 (-1)) a0)) a0 1)
def bX9_reads_34 (N : Nat) (K : Nat) (M : gM) (f : Nat → Nat → Int32) (a0 : Nat) (x1 : Int32) (k : Nat → (Nat → Nat → Int32) → Nat → Int32 → Int32 × (Nat → Nat → Int32)) : Int32 × (Nat → Nat → Int32) := (if (fX9_takes0 (g_wm M f (g_ml M)) a0 (fX9_sign 59)) = 0 then (if (fX9_fine (mX9_takes0 (g_wm M f (g_ml M)) a0 (fX9_sign 59)) a0) = 0 then ((fX9_fine (g_wi (mX9_takes0 (g_wm M f (g_ml M)) a0 (fX9_sign 59)) a0 14 (g_mi (mX9_takes0 (g_wm M f (g_ml M)) a0 (fX9_sign 59)) a0 21)) a0), g_mi (g_wi (mX9_takes0 (g_wm M f (g_ml M)) a0 (fX9_sign 59)) a0 14 (g_mi (mX9_takes0 (g_wm M f (g_ml M)) a0 (fX9_sign 59)) a0 21))) else (if (g_mi (mX9_takes0 (g_wm M f (g_ml M)) a0 (fX9_sign 59)) a0 18) ≤ (g_mi (mX9_takes0 (g_wm M f (g_ml M)) a0 (fX9_sign 59)) a0 19) then ((fX9_fine (g_wi (mX9_takes0 (g_wm M f (g_ml M)) a0 (fX9_sign 59)) a0 14 (g_mi (mX9_takes0 (g_wm M f (g_ml M)) a0 (fX9_sign 59)) a0 21)) a0), g_mi (g_wi (mX9_takes0 (g_wm M f (g_ml M)) a0 (fX9_sign 59)) a0 14 (g_mi (mX9_takes0 (g_wm M f (g_ml M)) a0 (fX9_sign 59)) a0 21))) else ((fX9_fine (g_wi (mX9_faults (mX9_takes0 (g_wm M f (g_ml M)) a0 (fX9_sign 59)) a0) a0 14 (g_mi (mX9_faults (mX9_takes0 (g_wm M f (g_ml M)) a0 (fX9_sign 59)) a0) a0 21)) a0), g_mi (g_wi (mX9_faults (mX9_takes0 (g_wm M f (g_ml M)) a0 (fX9_sign 59)) a0) a0 14 (g_mi (mX9_faults (mX9_takes0 (g_wm M f (g_ml M)) a0 (fX9_sign 59)) a0) a0 21))))) else (if x1 = 12 then (if (fX9_fine (mX9_faults (mX9_takes0 (g_wm M f (g_ml M)) a0 (fX9_sign 59)) a0) a0) = 0 then (k 0 (g_mi (mX9_faults (mX9_takes0 (g_wm M f (g_ml M)) a0 (fX9_sign 59)) a0)) a0 (x1 + 1)) else (k 0 (g_mi (mX9_readOne N K (mX9_faults (mX9_takes0 (g_wm M f (g_ml M)) a0 (fX9_sign 59)) a0) a0)) a0 (x1 + 1))) else (if (fX9_fine (mX9_takes0 (g_wm M f (g_ml M)) a0 (fX9_sign 59)) a0) = 0 then (k 0 (g_mi (mX9_takes0 (g_wm M f (g_ml M)) a0 (fX9_sign 59))) a0 (x1 + 1)) else (k 0 (g_mi (mX9_readOne N K (mX9_takes0 (g_wm M f (g_ml M)) a0 (fX9_sign 59)) a0)) a0 (x1 + 1)))))
def eX9_reads_34 (N : Nat) (K : Nat) (M : gM) (f : Nat → Nat → Int32) (a0 : Nat) (x1 : Int32) (k : Nat → (Nat → Nat → Int32) → Nat → Int32 → Prop) : Prop := (EX9_takes0 (g_wm M f (g_ml M)) a0 (fX9_sign 59)) ∧ (((fX9_takes0 (g_wm M f (g_ml M)) a0 (fX9_sign 59)) = 0) → ((fX9_fine (mX9_takes0 (g_wm M f (g_ml M)) a0 (fX9_sign 59)) a0) = 0) → (fX9_fine (g_wi (mX9_takes0 (g_wm M f (g_ml M)) a0 (fX9_sign 59)) a0 14 (g_mi (mX9_takes0 (g_wm M f (g_ml M)) a0 (fX9_sign 59)) a0 21)) a0) = 0 ∨ (fX9_fine (g_wi (mX9_takes0 (g_wm M f (g_ml M)) a0 (fX9_sign 59)) a0 14 (g_mi (mX9_takes0 (g_wm M f (g_ml M)) a0 (fX9_sign 59)) a0 21)) a0) = 1) ∧ (((fX9_takes0 (g_wm M f (g_ml M)) a0 (fX9_sign 59)) = 0) → (¬ (fX9_fine (mX9_takes0 (g_wm M f (g_ml M)) a0 (fX9_sign 59)) a0) = 0) → ((g_mi (mX9_takes0 (g_wm M f (g_ml M)) a0 (fX9_sign 59)) a0 18) ≤ (g_mi (mX9_takes0 (g_wm M f (g_ml M)) a0 (fX9_sign 59)) a0 19)) → (fX9_fine (g_wi (mX9_takes0 (g_wm M f (g_ml M)) a0 (fX9_sign 59)) a0 14 (g_mi (mX9_takes0 (g_wm M f (g_ml M)) a0 (fX9_sign 59)) a0 21)) a0) = 0 ∨ (fX9_fine (g_wi (mX9_takes0 (g_wm M f (g_ml M)) a0 (fX9_sign 59)) a0 14 (g_mi (mX9_takes0 (g_wm M f (g_ml M)) a0 (fX9_sign 59)) a0 21)) a0) = 1) ∧ (((fX9_takes0 (g_wm M f (g_ml M)) a0 (fX9_sign 59)) = 0) → (¬ (fX9_fine (mX9_takes0 (g_wm M f (g_ml M)) a0 (fX9_sign 59)) a0) = 0) → (¬ (g_mi (mX9_takes0 (g_wm M f (g_ml M)) a0 (fX9_sign 59)) a0 18) ≤ (g_mi (mX9_takes0 (g_wm M f (g_ml M)) a0 (fX9_sign 59)) a0 19)) → EX9_faults (mX9_takes0 (g_wm M f (g_ml M)) a0 (fX9_sign 59)) a0) ∧ (((fX9_takes0 (g_wm M f (g_ml M)) a0 (fX9_sign 59)) = 0) → (¬ (fX9_fine (mX9_takes0 (g_wm M f (g_ml M)) a0 (fX9_sign 59)) a0) = 0) → (¬ (g_mi (mX9_takes0 (g_wm M f (g_ml M)) a0 (fX9_sign 59)) a0 18) ≤ (g_mi (mX9_takes0 (g_wm M f (g_ml M)) a0 (fX9_sign 59)) a0 19)) → (fX9_fine (g_wi (mX9_faults (mX9_takes0 (g_wm M f (g_ml M)) a0 (fX9_sign 59)) a0) a0 14 (g_mi (mX9_faults (mX9_takes0 (g_wm M f (g_ml M)) a0 (fX9_sign 59)) a0) a0 21)) a0) = 0 ∨ (fX9_fine (g_wi (mX9_faults (mX9_takes0 (g_wm M f (g_ml M)) a0 (fX9_sign 59)) a0) a0 14 (g_mi (mX9_faults (mX9_takes0 (g_wm M f (g_ml M)) a0 (fX9_sign 59)) a0) a0 21)) a0) = 1) ∧ ((¬ (fX9_takes0 (g_wm M f (g_ml M)) a0 (fX9_sign 59)) = 0) → (¬ x1 = 12) → (¬ (fX9_fine (mX9_takes0 (g_wm M f (g_ml M)) a0 (fX9_sign 59)) a0) = 0) → EX9_readOne N K (mX9_takes0 (g_wm M f (g_ml M)) a0 (fX9_sign 59)) a0) ∧ ((¬ (fX9_takes0 (g_wm M f (g_ml M)) a0 (fX9_sign 59)) = 0) → (x1 = 12) → EX9_faults (mX9_takes0 (g_wm M f (g_ml M)) a0 (fX9_sign 59)) a0) ∧ ((¬ (fX9_takes0 (g_wm M f (g_ml M)) a0 (fX9_sign 59)) = 0) → (x1 = 12) → (¬ (fX9_fine (mX9_faults (mX9_takes0 (g_wm M f (g_ml M)) a0 (fX9_sign 59)) a0) a0) = 0) → EX9_readOne N K (mX9_faults (mX9_takes0 (g_wm M f (g_ml M)) a0 (fX9_sign 59)) a0) a0) ∧ (if (fX9_takes0 (g_wm M f (g_ml M)) a0 (fX9_sign 59)) = 0 then (if (fX9_fine (mX9_takes0 (g_wm M f (g_ml M)) a0 (fX9_sign 59)) a0) = 0 then True else (if (g_mi (mX9_takes0 (g_wm M f (g_ml M)) a0 (fX9_sign 59)) a0 18) ≤ (g_mi (mX9_takes0 (g_wm M f (g_ml M)) a0 (fX9_sign 59)) a0 19) then True else True)) else (if x1 = 12 then (if (fX9_fine (mX9_faults (mX9_takes0 (g_wm M f (g_ml M)) a0 (fX9_sign 59)) a0) a0) = 0 then (k 0 (g_mi (mX9_faults (mX9_takes0 (g_wm M f (g_ml M)) a0 (fX9_sign 59)) a0)) a0 (x1 + 1)) else (k 0 (g_mi (mX9_readOne N K (mX9_faults (mX9_takes0 (g_wm M f (g_ml M)) a0 (fX9_sign 59)) a0) a0)) a0 (x1 + 1))) else (if (fX9_fine (mX9_takes0 (g_wm M f (g_ml M)) a0 (fX9_sign 59)) a0) = 0 then (k 0 (g_mi (mX9_takes0 (g_wm M f (g_ml M)) a0 (fX9_sign 59))) a0 (x1 + 1)) else (k 0 (g_mi (mX9_readOne N K (mX9_takes0 (g_wm M f (g_ml M)) a0 (fX9_sign 59)) a0)) a0 (x1 + 1)))))
def wX9_reads (N : Nat) (K : Nat) (M : gM) : Nat → Nat → (Nat → Nat → Int32) → Nat → Int32 → Int32 × (Nat → Nat → Int32)
  | 0, _, f, _, _ => (0, f)
  | n + 1, h, f, a0, x1 => bX9_reads_34 N K M f a0 x1 (wX9_reads N K M n)
def vX9_reads (N : Nat) (K : Nat) (M : gM) : Nat → Nat → (Nat → Nat → Int32) → Nat → Int32 → Prop
  | 0, _, _, _, _ => False
  | n + 1, h, f, a0, x1 => eX9_reads_34 N K M f a0 x1 (vX9_reads N K M n)
set_option maxRecDepth 10000 in
theorem lpX9_reads {X : gX} {d mc ms : Nat} {Q : Option Value → gM → Prop} (N : Nat) (K : Nat) (M : gM) : ∀ n : Nat, (∀ (f : Nat → Nat → Int32) (a0 : Nat) (x1 : Int32), Mo M a0 → vX9_reads N K M n 0 f a0 x1 → Q (some (.int (wX9_reads N K M n 0 f a0 x1).1)) (g_wm M (wX9_reads N K M n 0 f a0 x1).2 (g_ml M)) → Go X (d + K + 7) mc ms kX9_reads Q 34 [(0, .ref a0), (1, .int (x1))] [] (g_wm M f (g_ml M)) 0 0) := by
  intro n
  induction n with
  | zero => exact fun _ _ _ _ h _ => h.elim
  | succ n ih =>
    intro f a0 x1 s0 hT hQ
    rw [vX9_reads] at hT
    rw [wX9_reads] at hQ
    unfold bX9_reads_34 at hQ
    unfold eX9_reads_34 at hT
    obtain ⟨b3, b5, b7, b8, b10, b12, b14, b16, hT⟩ := hT
    exact sX9_reads_34 (M := (g_wm M f (g_ml M))) (Mo.sm Sm.wm s0) (Nat.zero_le _) (Nat.zero_le _) b3 (fun c1 c2 => by simp only [if_pos c1, if_pos c2] at hQ; exact Sm.q (Sm.tr Sm.wm (Sm.wi (Sm.tr Sm.rf jX9_takes0))) hQ) b5 (fun c1 c2 c3 => by simp only [if_pos c1, if_neg c2, if_pos c3] at hQ; exact Sm.q (Sm.tr Sm.wm (Sm.wi (Sm.tr Sm.rf jX9_takes0))) hQ) b7 b8 (fun c1 c2 c3 => by simp only [if_pos c1, if_neg c2, if_neg c3] at hQ; exact Sm.q (Sm.tr Sm.wm (Sm.wi (Sm.tr (Sm.tr Sm.rf jX9_takes0) jX9_faults))) hQ) b10 (fun c1 c4 c5 => by simp only [if_neg c1, if_neg c4, if_pos c5] at hQ hT; exact Sm.g (Sm.tr Sm.wm (Sm.tr Sm.rf jX9_takes0)) (ih _ _ _ (s0) hT hQ)) b12 (fun c1 c4 c5 => by simp only [if_neg c1, if_neg c4, if_neg c5] at hQ hT; exact Sm.g (Sm.tr Sm.wm (Sm.tr (Sm.tr Sm.rf jX9_takes0) jX9_readOne)) (ih _ _ _ (s0) hT hQ)) b14 (fun c1 c4 c6 => by simp only [if_neg c1, if_pos c4, if_pos c6] at hQ hT; exact Sm.g (Sm.tr Sm.wm (Sm.tr (Sm.tr Sm.rf jX9_takes0) jX9_faults)) (ih _ _ _ (s0) hT hQ)) b16 (fun c1 c4 c6 => by simp only [if_neg c1, if_pos c4, if_neg c6] at hQ hT; exact Sm.g (Sm.tr Sm.wm (Sm.tr (Sm.tr (Sm.tr Sm.rf jX9_takes0) jX9_faults) jX9_readOne)) (ih _ _ _ (s0) hT hQ))
def fX9_reads (N : Nat) (K : Nat) (M : gM) (a0 : Nat) : Int32 := (bX9_reads_0 N K M a0 (wX9_reads N K M N)).1
def mX9_reads (N : Nat) (K : Nat) (M : gM) (a0 : Nat) : gM := g_wm M (bX9_reads_0 N K M a0 (wX9_reads N K M N)).2 (g_ml M)
theorem jX9_reads {N : Nat} {K : Nat} {M : gM} {a0 : Nat} : Sm M (mX9_reads N K M a0) := Sm.wm
def EX9_reads (N : Nat) (K : Nat) (M : gM) (a0 : Nat) : Prop := eX9_reads_0 N K M a0 (vX9_reads N K M N)
theorem tX9_reads {N : Nat} {K : Nat} {X : gX} {d mc ms : Nat} {Q : Option Value → gM → Prop} {M : gM} {a0 : Nat} (s0 : Mo M a0) (hE : EX9_reads N K M a0) (hQ : Q (some (.int (fX9_reads N K M a0))) (mX9_reads N K M a0)) : Cn X (d + K + 7) mc ms kX9_reads [.ref a0] M Q := by
  unfold fX9_reads mX9_reads at hQ
  unfold bX9_reads_0 at hQ
  unfold EX9_reads eX9_reads_0 at hE
  obtain ⟨b1, b2, hT⟩ := hE
  have ih := lpX9_reads (X := X) (d := d) (mc := mc) (ms := ms) (Q := Q) N K M N
  exact sX9_reads_0 s0 b1 b2 (Sm.g (Sm.tr (Sm.wi (Sm.wi (Sm.wi (Sm.wi (Sm.tr Sm.rf jX9_splits))))) jX9_readOne) (ih _ _ _ (s0) hT hQ))
/-! X9_readsAs  -/
set_option maxRecDepth 4000 in
theorem sX9_readsAs_0 {N : Nat} {K : Nat} {X : gX} {d mc ms : Nat} {Q : Option Value → gM → Prop} {M : gM} {a0 : Nat} {x1 : Int32} (s0 : Mo M a0) (b1 : x1 = 0 ∨ x1 = 1) (b2 : (x1 = 0) → EX9_reads N K (g_wi (g_wi (g_wi M a0 10 x1) a0 8 7) a0 9 13) a0) (h3 : (x1 = 0) → Q (some (.int ((fX9_reads N K (g_wi (g_wi (g_wi M a0 10 x1) a0 8 7) a0 9 13) a0)))) (mX9_reads N K (g_wi (g_wi (g_wi M a0 10 x1) a0 8 7) a0 9 13) a0)) (b4 : (x1 = 0) → (fX9_reads N K (g_wi (g_wi (g_wi M a0 10 x1) a0 8 7) a0 9 13) a0) = 0 ∨ (fX9_reads N K (g_wi (g_wi (g_wi M a0 10 x1) a0 8 7) a0 9 13) a0) = 1) (b5 : (¬ x1 = 0) → EX9_reads N K (g_wi (g_wi (g_wi M a0 10 x1) a0 8 12) a0 9 17) a0) (h6 : (¬ x1 = 0) → Q (some (.int ((fX9_reads N K (g_wi (g_wi (g_wi M a0 10 x1) a0 8 12) a0 9 17) a0)))) (mX9_reads N K (g_wi (g_wi (g_wi M a0 10 x1) a0 8 12) a0 9 17) a0)) (b7 : (¬ x1 = 0) → (fX9_reads N K (g_wi (g_wi (g_wi M a0 10 x1) a0 8 12) a0 9 17) a0) = 0 ∨ (fX9_reads N K (g_wi (g_wi (g_wi M a0 10 x1) a0 8 12) a0 9 17) a0) = 1) : Cn X (d + K + 8) mc ms kX9_readsAs [.ref a0, .int (x1)] M Q := by
  refine g_meth rfl rfl (Nat.le_of_ble_eq_true rfl) rfl ?_
  refine g_aload_n 0 1 dX9_readsAs_0 rfl rfl ?_
  refine g_iload_n 1 2 dX9_readsAs_1 rfl rfl ?_
  refine g_putZ 5 dX9_readsAs_2 rfl flX9_212 s0.1 (b1) ?_
  refine g_aload_n 0 6 dX9_readsAs_5 rfl rfl ?_
  refine g_iload_n 1 7 dX9_readsAs_6 rfl rfl ?_
  refine g_if_eq 15 10 dX9_readsAs_7 rfl rfl (fun c1 => ?_) (fun c1 => ?_)
  · skip
    refine g_bipush (7) 17 dX9_readsAs_15 rfl rfl ?_
    refine g_putI 20 dX9_readsAs_17 rfl flX9_238 (Sm.k (Sm.wi Sm.rf) s0.1) ?_
    refine g_aload_n 0 21 dX9_readsAs_20 rfl rfl ?_
    refine g_iload_n 1 22 dX9_readsAs_21 rfl rfl ?_
    refine g_if_eq 30 25 dX9_readsAs_22 rfl rfl (fun _ => ?_) (fun q => absurd c1 q)
    refine g_bipush (13) 32 dX9_readsAs_30 rfl rfl ?_
    refine g_putI 35 dX9_readsAs_32 rfl flX9_241 (Sm.k (Sm.wi (Sm.wi Sm.rf)) s0.1) ?_
    refine g_aload_n 0 36 dX9_readsAs_35 rfl rfl ?_
    refine g_callV (mc1 := 0) (ms1 := 0) (b := a0) (rest := []) (av := []) kX9_reads 39 dX9_readsAs_36 rfl rfl mbX9_253 imX9_reads seX9_reads gcl9.1 (Sm.k (Sm.wi (Sm.wi (Sm.wi Sm.rf))) s0.1) (Nat.le_of_ble_eq_true rfl) (Nat.zero_le _) (Nat.zero_le _) (tX9_reads (N := N) (K := K) (Mo.sm (Sm.wi (Sm.wi (Sm.wi Sm.rf))) s0) (b2 c1) ?_)
    show Go X (d + K + 8) mc ms kX9_readsAs Q 39 [(0, .ref a0), (1, .int (x1))] [.int ((fX9_reads N K (g_wi (g_wi (g_wi M a0 10 x1) a0 8 7) a0 9 13) a0))] (mX9_reads N K (g_wi (g_wi (g_wi M a0 10 x1) a0 8 7) a0 9 13) a0) 0 0
    exact g_zret dX9_readsAs_39 rfl (b4 c1) (Nat.zero_le _) (Nat.zero_le _) (h3 c1)
  · skip
    refine g_bipush (12) 12 dX9_readsAs_10 rfl rfl ?_
    refine g_goto 17 dX9_readsAs_12 rfl ?_
    refine g_putI 20 dX9_readsAs_17 rfl flX9_238 (Sm.k (Sm.wi Sm.rf) s0.1) ?_
    refine g_aload_n 0 21 dX9_readsAs_20 rfl rfl ?_
    refine g_iload_n 1 22 dX9_readsAs_21 rfl rfl ?_
    refine g_if_eq 30 25 dX9_readsAs_22 rfl rfl (fun q => absurd q c1) (fun _ => ?_)
    refine g_bipush (17) 27 dX9_readsAs_25 rfl rfl ?_
    refine g_goto 32 dX9_readsAs_27 rfl ?_
    refine g_putI 35 dX9_readsAs_32 rfl flX9_241 (Sm.k (Sm.wi (Sm.wi Sm.rf)) s0.1) ?_
    refine g_aload_n 0 36 dX9_readsAs_35 rfl rfl ?_
    refine g_callV (mc1 := 0) (ms1 := 0) (b := a0) (rest := []) (av := []) kX9_reads 39 dX9_readsAs_36 rfl rfl mbX9_253 imX9_reads seX9_reads gcl9.1 (Sm.k (Sm.wi (Sm.wi (Sm.wi Sm.rf))) s0.1) (Nat.le_of_ble_eq_true rfl) (Nat.zero_le _) (Nat.zero_le _) (tX9_reads (N := N) (K := K) (Mo.sm (Sm.wi (Sm.wi (Sm.wi Sm.rf))) s0) (b5 c1) ?_)
    show Go X (d + K + 8) mc ms kX9_readsAs Q 39 [(0, .ref a0), (1, .int (x1))] [.int ((fX9_reads N K (g_wi (g_wi (g_wi M a0 10 x1) a0 8 12) a0 9 17) a0))] (mX9_reads N K (g_wi (g_wi (g_wi M a0 10 x1) a0 8 12) a0 9 17) a0) 0 0
    exact g_zret dX9_readsAs_39 rfl (b7 c1) (Nat.zero_le _) (Nat.zero_le _) (h6 c1)

def fX9_readsAs (N : Nat) (K : Nat) (M : gM) (a0 : Nat) (x1 : Int32) : Int32 := (if x1 = 0 then (fX9_reads N K (g_wi (g_wi (g_wi M a0 10 x1) a0 8 7) a0 9 13) a0) else (fX9_reads N K (g_wi (g_wi (g_wi M a0 10 x1) a0 8 12) a0 9 17) a0))
def mX9_readsAs (N : Nat) (K : Nat) (M : gM) (a0 : Nat) (x1 : Int32) : gM := g_wm M (if x1 = 0 then (g_mi (mX9_reads N K (g_wi (g_wi (g_wi M a0 10 x1) a0 8 7) a0 9 13) a0)) else (g_mi (mX9_reads N K (g_wi (g_wi (g_wi M a0 10 x1) a0 8 12) a0 9 17) a0))) (g_ml M)
def EX9_readsAs (N : Nat) (K : Nat) (M : gM) (a0 : Nat) (x1 : Int32) : Prop := (x1 = 0 ∨ x1 = 1) ∧ ((x1 = 0) → EX9_reads N K (g_wi (g_wi (g_wi M a0 10 x1) a0 8 7) a0 9 13) a0) ∧ ((x1 = 0) → (fX9_reads N K (g_wi (g_wi (g_wi M a0 10 x1) a0 8 7) a0 9 13) a0) = 0 ∨ (fX9_reads N K (g_wi (g_wi (g_wi M a0 10 x1) a0 8 7) a0 9 13) a0) = 1) ∧ ((¬ x1 = 0) → EX9_reads N K (g_wi (g_wi (g_wi M a0 10 x1) a0 8 12) a0 9 17) a0) ∧ ((¬ x1 = 0) → (fX9_reads N K (g_wi (g_wi (g_wi M a0 10 x1) a0 8 12) a0 9 17) a0) = 0 ∨ (fX9_reads N K (g_wi (g_wi (g_wi M a0 10 x1) a0 8 12) a0 9 17) a0) = 1)
theorem jX9_readsAs {N : Nat} {K : Nat} {M : gM} {a0 : Nat} {x1 : Int32} : Sm M (mX9_readsAs N K M a0 x1) := Sm.wm
theorem tX9_readsAs {N : Nat} {K : Nat} {X : gX} {d mc ms : Nat} {Q : Option Value → gM → Prop} {M : gM} {a0 : Nat} {x1 : Int32} (s0 : Mo M a0) (hE : EX9_readsAs N K M a0 x1) (hQ : Q (some (.int (fX9_readsAs N K M a0 x1))) (mX9_readsAs N K M a0 x1)) : Cn X (d + K + 8) mc ms kX9_readsAs [.ref a0, .int (x1)] M Q := by
  unfold fX9_readsAs mX9_readsAs at hQ
  obtain ⟨b1, b2, b4, b5, b7⟩ := hE
  exact sX9_readsAs_0 s0 b1 b2 (fun c1 => by simp only [if_pos c1] at hQ; exact Sm.q (Sm.tr (Sm.wi (Sm.wi (Sm.wi Sm.rf))) jX9_reads) hQ) b4 b5 (fun c1 => by simp only [if_neg c1] at hQ; exact Sm.q (Sm.tr (Sm.wi (Sm.wi (Sm.wi Sm.rf))) jX9_reads) hQ) b7
/-! X9_law  -/
set_option maxRecDepth 4000 in
theorem sX9_law_0 {N : Nat} {K : Nat} {X : gX} {d mc ms : Nat} {Q : Option Value → gM → Prop} {M : gM} {a0 : Nat} (s0 : Mo M a0) (b1 : (¬ (g_mi M (a0 + 2) 203) = 6) → EX9_readsAs N K M a0 0) (b2 : (¬ (g_mi M (a0 + 2) 203) = 6) → (¬ (fX9_readsAs N K M a0 0) = 0) → EX9_lays N (mX9_readsAs N K M a0 0) a0 (g_mi (mX9_readsAs N K M a0 0) (a0 + 2) 203)) (h3 : (¬ (g_mi M (a0 + 2) 203) = 6) → (¬ (fX9_readsAs N K M a0 0) = 0) → Q (some (.int ((fX9_good0 a0 ((g_mi (g_wi (mX9_lays N (mX9_readsAs N K M a0 0) a0 (g_mi (mX9_readsAs N K M a0 0) (a0 + 2) 203)) (a0 + 2) 203 ((g_mi (mX9_lays N (mX9_readsAs N K M a0 0) a0 (g_mi (mX9_readsAs N K M a0 0) (a0 + 2) 203)) (a0 + 2) 203) + 1)) (a0 + 2) 203) - 1))))) (mX9_good0 (g_wi (mX9_lays N (mX9_readsAs N K M a0 0) a0 (g_mi (mX9_readsAs N K M a0 0) (a0 + 2) 203)) (a0 + 2) 203 ((g_mi (mX9_lays N (mX9_readsAs N K M a0 0) a0 (g_mi (mX9_readsAs N K M a0 0) (a0 + 2) 203)) (a0 + 2) 203) + 1)) a0 ((g_mi (g_wi (mX9_lays N (mX9_readsAs N K M a0 0) a0 (g_mi (mX9_readsAs N K M a0 0) (a0 + 2) 203)) (a0 + 2) 203 ((g_mi (mX9_lays N (mX9_readsAs N K M a0 0) a0 (g_mi (mX9_readsAs N K M a0 0) (a0 + 2) 203)) (a0 + 2) 203) + 1)) (a0 + 2) 203) - 1))) (b4 : (¬ (g_mi M (a0 + 2) 203) = 6) → ((fX9_readsAs N K M a0 0) = 0) → EX9_refuses (mX9_readsAs N K M a0 0) a0 (-6)) (h5 : (¬ (g_mi M (a0 + 2) 203) = 6) → ((fX9_readsAs N K M a0 0) = 0) → Q (some (.int ((fX9_refuses a0 (-6))))) (mX9_refuses (mX9_readsAs N K M a0 0) a0 (-6))) (b6 : ((g_mi M (a0 + 2) 203) = 6) → EX9_refuses (g_wi M a0 13 0) a0 (-5)) (h7 : ((g_mi M (a0 + 2) 203) = 6) → Q (some (.int ((fX9_refuses a0 (-5))))) (mX9_refuses (g_wi M a0 13 0) a0 (-5))) : Cn X (d + K + 9) mc ms kX9_law [.ref a0] M Q := by
  refine g_meth rfl rfl (Nat.le_of_ble_eq_true rfl) rfl ?_
  refine g_aload_n 0 1 dX9_law_0 rfl rfl ?_
  refine g_getR 4 (a0 + 2) dX9_law_1 rfl flX9_28 s0.1 s0.2.2.2.1 ?_
  refine g_sipush (203) 7 dX9_law_4 rfl rfl ?_
  refine h_iaload 8 203 dX9_law_7 rfl rfl s0.2.2.2.2.1 (vp_lit rfl) ?_
  refine g_bipush (6) 10 dX9_law_8 rfl rfl ?_
  refine g_icmp_ne 25 13 dX9_law_10 rfl rfl (fun c1 => ?_) (fun c1 => ?_)
  · skip
    refine g_aload_n 0 26 dX9_law_25 rfl rfl ?_
    refine g_iconst (0) 27 dX9_law_26 rfl rfl ?_
    refine g_callV (mc1 := 0) (ms1 := 0) (b := a0) (rest := []) (av := [.int (0)]) kX9_readsAs 30 dX9_law_27 rfl rfl mbX9_256 imX9_readsAs seX9_readsAs gcl9.1 s0.1 (Nat.le_of_ble_eq_true rfl) (Nat.zero_le _) (Nat.zero_le _) (tX9_readsAs (N := N) (K := K) s0 (b1 c1) ?_)
    show Go X (d + K + 9) mc ms kX9_law Q 30 [(0, .ref a0)] [.int ((fX9_readsAs N K M a0 0))] (mX9_readsAs N K M a0 0) 0 0
    refine g_if_ne 40 33 dX9_law_30 rfl rfl (fun c2 => ?_) (fun c2 => ?_)
    · skip
      refine g_aload_n 0 41 dX9_law_40 rfl rfl ?_
      refine g_aload_n 0 42 dX9_law_41 rfl rfl ?_
      refine g_getR 45 (a0 + 2) dX9_law_42 rfl flX9_28 (Sm.k (Sm.tr Sm.rf jX9_readsAs) s0.1) (Sm.r (Sm.tr Sm.rf jX9_readsAs) s0.2.2.2.1) ?_
      refine g_sipush (203) 48 dX9_law_45 rfl rfl ?_
      refine h_iaload 49 203 dX9_law_48 rfl rfl (Sm.k (Sm.tr Sm.rf jX9_readsAs) s0.2.2.2.2.1) (vp_lit rfl) ?_
      refine g_callV (mc1 := 0) (ms1 := 0) (b := a0) (rest := []) (av := [.int ((g_mi (mX9_readsAs N K M a0 0) (a0 + 2) 203))]) kX9_lays 52 dX9_law_49 rfl rfl mbX9_260 imX9_lays seX9_lays gcl9.1 (Sm.k (Sm.tr Sm.rf jX9_readsAs) s0.1) (Nat.le_of_ble_eq_true rfl) (Nat.zero_le _) (Nat.zero_le _) (tX9_lays (N := N) (Mo.sm (Sm.tr Sm.rf jX9_readsAs) s0) (b2 c1 c2) ?_)
      show Go X (d + K + 9) mc ms kX9_law Q 52 [(0, .ref a0)] [] (mX9_lays N (mX9_readsAs N K M a0 0) a0 (g_mi (mX9_readsAs N K M a0 0) (a0 + 2) 203)) 0 0
      refine g_aload_n 0 53 dX9_law_52 rfl rfl ?_
      refine g_getR 56 (a0 + 2) dX9_law_53 rfl flX9_28 (Sm.k (Sm.tr (Sm.tr Sm.rf jX9_readsAs) jX9_lays) s0.1) (Sm.r (Sm.tr (Sm.tr Sm.rf jX9_readsAs) jX9_lays) s0.2.2.2.1) ?_
      refine g_sipush (203) 59 dX9_law_56 rfl rfl ?_
      refine g_dup2 60 dX9_law_59 rfl rfl rfl ?_
      refine h_iaload 61 203 dX9_law_60 rfl rfl (Sm.k (Sm.tr (Sm.tr Sm.rf jX9_readsAs) jX9_lays) s0.2.2.2.2.1) (vp_lit rfl) ?_
      refine g_iconst (1) 62 dX9_law_61 rfl rfl ?_
      refine g_iadd 63 dX9_law_62 rfl ?_
      refine h_iastore 64 203 dX9_law_63 rfl rfl (Sm.k (Sm.tr (Sm.tr Sm.rf jX9_readsAs) jX9_lays) s0.2.2.2.2.1) (vp_lit rfl) ?_
      refine g_aload_n 0 65 dX9_law_64 rfl rfl ?_
      refine g_aload_n 0 66 dX9_law_65 rfl rfl ?_
      refine g_getR 69 (a0 + 2) dX9_law_66 rfl flX9_28 (Sm.k (Sm.wi (Sm.tr (Sm.tr Sm.rf jX9_readsAs) jX9_lays)) s0.1) (Sm.r (Sm.wi (Sm.tr (Sm.tr Sm.rf jX9_readsAs) jX9_lays)) s0.2.2.2.1) ?_
      refine g_sipush (203) 72 dX9_law_69 rfl rfl ?_
      refine h_iaload 73 203 dX9_law_72 rfl rfl (Sm.k (Sm.wi (Sm.tr (Sm.tr Sm.rf jX9_readsAs) jX9_lays)) s0.2.2.2.2.1) (vp_lit rfl) ?_
      refine g_iconst (1) 74 dX9_law_73 rfl rfl ?_
      refine g_isub 75 dX9_law_74 rfl ?_
      refine g_callV (mc1 := 0) (ms1 := 0) (b := a0) (rest := []) (av := [.int (((g_mi (g_wi (mX9_lays N (mX9_readsAs N K M a0 0) a0 (g_mi (mX9_readsAs N K M a0 0) (a0 + 2) 203)) (a0 + 2) 203 ((g_mi (mX9_lays N (mX9_readsAs N K M a0 0) a0 (g_mi (mX9_readsAs N K M a0 0) (a0 + 2) 203)) (a0 + 2) 203) + 1)) (a0 + 2) 203) - 1))]) kX9_good0 78 dX9_law_75 rfl rfl mbX9_14 imX9_good0 seX9_good0 gcl9.1 (Sm.k (Sm.wi (Sm.tr (Sm.tr Sm.rf jX9_readsAs) jX9_lays)) s0.1) (Nat.le_of_ble_eq_true rfl) (Nat.zero_le _) (Nat.zero_le _) (tX9_good0 (Mo.sm (Sm.wi (Sm.tr (Sm.tr Sm.rf jX9_readsAs) jX9_lays)) s0) ?_)
      show Go X (d + K + 9) mc ms kX9_law Q 78 [(0, .ref a0)] [.int ((fX9_good0 a0 ((g_mi (g_wi (mX9_lays N (mX9_readsAs N K M a0 0) a0 (g_mi (mX9_readsAs N K M a0 0) (a0 + 2) 203)) (a0 + 2) 203 ((g_mi (mX9_lays N (mX9_readsAs N K M a0 0) a0 (g_mi (mX9_readsAs N K M a0 0) (a0 + 2) 203)) (a0 + 2) 203) + 1)) (a0 + 2) 203) - 1)))] (mX9_good0 (g_wi (mX9_lays N (mX9_readsAs N K M a0 0) a0 (g_mi (mX9_readsAs N K M a0 0) (a0 + 2) 203)) (a0 + 2) 203 ((g_mi (mX9_lays N (mX9_readsAs N K M a0 0) a0 (g_mi (mX9_readsAs N K M a0 0) (a0 + 2) 203)) (a0 + 2) 203) + 1)) a0 ((g_mi (g_wi (mX9_lays N (mX9_readsAs N K M a0 0) a0 (g_mi (mX9_readsAs N K M a0 0) (a0 + 2) 203)) (a0 + 2) 203 ((g_mi (mX9_lays N (mX9_readsAs N K M a0 0) a0 (g_mi (mX9_readsAs N K M a0 0) (a0 + 2) 203)) (a0 + 2) 203) + 1)) (a0 + 2) 203) - 1)) 0 0
      exact g_iret dX9_law_78 rfl (Nat.zero_le _) (Nat.zero_le _) (h3 c1 c2)
    · skip
      refine g_aload_n 0 34 dX9_law_33 rfl rfl ?_
      refine g_bipush ((-6)) 36 dX9_law_34 rfl rfl ?_
      refine g_callV (mc1 := 0) (ms1 := 0) (b := a0) (rest := []) (av := [.int ((-6))]) kX9_refuses 39 dX9_law_36 rfl rfl mbX9_103 imX9_refuses seX9_refuses gcl9.1 (Sm.k (Sm.tr Sm.rf jX9_readsAs) s0.1) (Nat.le_of_ble_eq_true rfl) (Nat.zero_le _) (Nat.zero_le _) (tX9_refuses (Mo.sm (Sm.tr Sm.rf jX9_readsAs) s0) (b4 c1 c2) ?_)
      show Go X (d + K + 9) mc ms kX9_law Q 39 [(0, .ref a0)] [.int ((fX9_refuses a0 (-6)))] (mX9_refuses (mX9_readsAs N K M a0 0) a0 (-6)) 0 0
      exact g_iret dX9_law_39 rfl (Nat.zero_le _) (Nat.zero_le _) (h5 c1 c2)
  · skip
    refine g_aload_n 0 14 dX9_law_13 rfl rfl ?_
    refine g_iconst (0) 15 dX9_law_14 rfl rfl ?_
    refine g_putI 18 dX9_law_15 rfl flX9_157 s0.1 ?_
    refine g_aload_n 0 19 dX9_law_18 rfl rfl ?_
    refine g_bipush ((-5)) 21 dX9_law_19 rfl rfl ?_
    refine g_callV (mc1 := 0) (ms1 := 0) (b := a0) (rest := []) (av := [.int ((-5))]) kX9_refuses 24 dX9_law_21 rfl rfl mbX9_103 imX9_refuses seX9_refuses gcl9.1 (Sm.k (Sm.wi Sm.rf) s0.1) (Nat.le_of_ble_eq_true rfl) (Nat.zero_le _) (Nat.zero_le _) (tX9_refuses (Mo.sm (Sm.wi Sm.rf) s0) (b6 c1) ?_)
    show Go X (d + K + 9) mc ms kX9_law Q 24 [(0, .ref a0)] [.int ((fX9_refuses a0 (-5)))] (mX9_refuses (g_wi M a0 13 0) a0 (-5)) 0 0
    exact g_iret dX9_law_24 rfl (Nat.zero_le _) (Nat.zero_le _) (h7 c1)

def fX9_law (N : Nat) (K : Nat) (M : gM) (a0 : Nat) : Int32 := (if (g_mi M (a0 + 2) 203) = 6 then (fX9_refuses a0 (-5)) else (if (fX9_readsAs N K M a0 0) = 0 then (fX9_refuses a0 (-6)) else (fX9_good0 a0 ((g_mi (g_wi (mX9_lays N (mX9_readsAs N K M a0 0) a0 (g_mi (mX9_readsAs N K M a0 0) (a0 + 2) 203)) (a0 + 2) 203 ((g_mi (mX9_lays N (mX9_readsAs N K M a0 0) a0 (g_mi (mX9_readsAs N K M a0 0) (a0 + 2) 203)) (a0 + 2) 203) + 1)) (a0 + 2) 203) - 1))))
def mX9_law (N : Nat) (K : Nat) (M : gM) (a0 : Nat) : gM := g_wm M (if (g_mi M (a0 + 2) 203) = 6 then (g_mi (mX9_refuses (g_wi M a0 13 0) a0 (-5))) else (if (fX9_readsAs N K M a0 0) = 0 then (g_mi (mX9_refuses (mX9_readsAs N K M a0 0) a0 (-6))) else (g_mi (mX9_good0 (g_wi (mX9_lays N (mX9_readsAs N K M a0 0) a0 (g_mi (mX9_readsAs N K M a0 0) (a0 + 2) 203)) (a0 + 2) 203 ((g_mi (mX9_lays N (mX9_readsAs N K M a0 0) a0 (g_mi (mX9_readsAs N K M a0 0) (a0 + 2) 203)) (a0 + 2) 203) + 1)) a0 ((g_mi (g_wi (mX9_lays N (mX9_readsAs N K M a0 0) a0 (g_mi (mX9_readsAs N K M a0 0) (a0 + 2) 203)) (a0 + 2) 203 ((g_mi (mX9_lays N (mX9_readsAs N K M a0 0) a0 (g_mi (mX9_readsAs N K M a0 0) (a0 + 2) 203)) (a0 + 2) 203) + 1)) (a0 + 2) 203) - 1))))) (g_ml M)
def EX9_law (N : Nat) (K : Nat) (M : gM) (a0 : Nat) : Prop := ((¬ (g_mi M (a0 + 2) 203) = 6) → EX9_readsAs N K M a0 0) ∧ ((¬ (g_mi M (a0 + 2) 203) = 6) → (¬ (fX9_readsAs N K M a0 0) = 0) → EX9_lays N (mX9_readsAs N K M a0 0) a0 (g_mi (mX9_readsAs N K M a0 0) (a0 + 2) 203)) ∧ ((¬ (g_mi M (a0 + 2) 203) = 6) → ((fX9_readsAs N K M a0 0) = 0) → EX9_refuses (mX9_readsAs N K M a0 0) a0 (-6)) ∧ (((g_mi M (a0 + 2) 203) = 6) → EX9_refuses (g_wi M a0 13 0) a0 (-5))
theorem jX9_law {N : Nat} {K : Nat} {M : gM} {a0 : Nat} : Sm M (mX9_law N K M a0) := Sm.wm
theorem tX9_law {N : Nat} {K : Nat} {X : gX} {d mc ms : Nat} {Q : Option Value → gM → Prop} {M : gM} {a0 : Nat} (s0 : Mo M a0) (hE : EX9_law N K M a0) (hQ : Q (some (.int (fX9_law N K M a0))) (mX9_law N K M a0)) : Cn X (d + K + 9) mc ms kX9_law [.ref a0] M Q := by
  unfold fX9_law mX9_law at hQ
  obtain ⟨b1, b2, b4, b6⟩ := hE
  exact sX9_law_0 s0 b1 b2 (fun c1 c2 => by simp only [if_neg c1, if_neg c2] at hQ; exact Sm.q (Sm.tr (Sm.wi (Sm.tr (Sm.tr Sm.rf jX9_readsAs) jX9_lays)) jX9_good0) hQ) b4 (fun c1 c2 => by simp only [if_neg c1, if_pos c2] at hQ; exact Sm.q (Sm.tr (Sm.tr Sm.rf jX9_readsAs) jX9_refuses) hQ) b6 (fun c1 => by simp only [if_pos c1] at hQ; exact Sm.q (Sm.tr (Sm.wi Sm.rf) jX9_refuses) hQ)
/-! X9_tells  -/
set_option maxRecDepth 4000 in
theorem sX9_tells_0 {K : Nat} {X : gX} {d mc ms : Nat} {Q : Option Value → gM → Prop} {M : gM} {a0 : Nat} {x1 : Int32} {x2 : Int32} (s0 : Mo M a0) (b1 : (¬ (g_mi M (a0 + 2) 204) = (-1)) → vp_in ((205 + (g_mi (g_wi (g_wi M a0 25 0) a0 22 (400 * (g_mi (g_wi M a0 25 0) (a0 + 2) 204))) (a0 + 2) 204))) 5812) (h2 : (¬ (g_mi M (a0 + 2) 204) = (-1)) → Go X (d + K + 7) mc ms kX9_tells Q 64 [(0, .ref a0), (1, .int (x1)), (3, .long (((x2 : Int32).toInt64)))] [] (g_wi (g_wi (g_wi M a0 25 0) a0 22 (400 * (g_mi (g_wi M a0 25 0) (a0 + 2) 204))) a0 23 ((g_mi (g_wi (g_wi M a0 25 0) a0 22 (400 * (g_mi (g_wi M a0 25 0) (a0 + 2) 204))) a0 22) + (g_mi (g_wi (g_wi M a0 25 0) a0 22 (400 * (g_mi (g_wi M a0 25 0) (a0 + 2) 204))) (a0 + 2) ((205 + (g_mi (g_wi (g_wi M a0 25 0) a0 22 (400 * (g_mi (g_wi M a0 25 0) (a0 + 2) 204))) (a0 + 2) 204))).toNatClampNeg))) 0 0) (h3 : ((g_mi M (a0 + 2) 204) = (-1)) → Q (some (.int (x2))) M) : Cn X (d + K + 7) mc ms kX9_tells [.ref a0, .int (x1), .int (x2)] M Q := by
  refine g_meth rfl rfl (Nat.le_of_ble_eq_true rfl) rfl ?_
  refine g_aload_n 0 1 dX9_tells_0 rfl rfl ?_
  refine g_getR 4 (a0 + 2) dX9_tells_1 rfl flX9_28 s0.1 s0.2.2.2.1 ?_
  refine g_sipush (204) 7 dX9_tells_4 rfl rfl ?_
  refine h_iaload 8 204 dX9_tells_7 rfl rfl s0.2.2.2.2.1 (vp_lit rfl) ?_
  refine g_iconst ((-1)) 9 dX9_tells_8 rfl rfl ?_
  refine g_icmp_ne 14 12 dX9_tells_9 rfl rfl (fun c1 => ?_) (fun c1 => ?_)
  · skip
    refine g_aload_n 0 15 dX9_tells_14 rfl rfl ?_
    refine g_iconst (0) 16 dX9_tells_15 rfl rfl ?_
    refine g_putZ 19 dX9_tells_16 rfl flX9_299 s0.1 (by decide) ?_
    refine g_iload_n 2 20 dX9_tells_19 rfl rfl ?_
    refine g_i2l 21 dX9_tells_20 rfl ?_
    refine g_lstore_n 22 [(3, .long (((x2 : Int32).toInt64))), (0, .ref a0), (1, .int (x1)), (2, .int (x2))] dX9_tells_21 rfl (Nat.le_of_ble_eq_true rfl) rfl ?_
    refine g_aload_n 1 23 dX9_tells_22 rfl rfl ?_
    refine g_sipush (400) 26 dX9_tells_23 rfl rfl ?_
    refine g_aload_n 1 27 dX9_tells_26 rfl rfl ?_
    refine g_getR 30 (a0 + 2) dX9_tells_27 rfl flX9_28 (Sm.k (Sm.wi Sm.rf) s0.1) (Sm.r (Sm.wi Sm.rf) s0.2.2.2.1) ?_
    refine g_sipush (204) 33 dX9_tells_30 rfl rfl ?_
    refine h_iaload 34 204 dX9_tells_33 rfl rfl (Sm.k (Sm.wi Sm.rf) s0.2.2.2.2.1) (vp_lit rfl) ?_
    refine g_imul 35 dX9_tells_34 rfl ?_
    refine g_putI 38 dX9_tells_35 rfl flX9_269 (Sm.k (Sm.wi Sm.rf) s0.1) ?_
    refine g_aload_n 1 39 dX9_tells_38 rfl rfl ?_
    refine g_aload_n 1 40 dX9_tells_39 rfl rfl ?_
    refine g_getI 43 dX9_tells_40 rfl flX9_269 (Sm.k (Sm.wi (Sm.wi Sm.rf)) s0.1) ?_
    refine g_aload_n 1 44 dX9_tells_43 rfl rfl ?_
    refine g_getR 47 (a0 + 2) dX9_tells_44 rfl flX9_28 (Sm.k (Sm.wi (Sm.wi Sm.rf)) s0.1) (Sm.r (Sm.wi (Sm.wi Sm.rf)) s0.2.2.2.1) ?_
    refine g_sipush (205) 50 dX9_tells_47 rfl rfl ?_
    refine g_aload_n 1 51 dX9_tells_50 rfl rfl ?_
    refine g_getR 54 (a0 + 2) dX9_tells_51 rfl flX9_28 (Sm.k (Sm.wi (Sm.wi Sm.rf)) s0.1) (Sm.r (Sm.wi (Sm.wi Sm.rf)) s0.2.2.2.1) ?_
    refine g_sipush (204) 57 dX9_tells_54 rfl rfl ?_
    refine h_iaload 58 204 dX9_tells_57 rfl rfl (Sm.k (Sm.wi (Sm.wi Sm.rf)) s0.2.2.2.2.1) (vp_lit rfl) ?_
    refine g_iadd 59 dX9_tells_58 rfl ?_
    refine h_iaload 60 ((205 + (g_mi (g_wi (g_wi M a0 25 0) a0 22 (400 * (g_mi (g_wi M a0 25 0) (a0 + 2) 204))) (a0 + 2) 204))).toNatClampNeg dX9_tells_59 rfl rfl (Sm.k (Sm.wi (Sm.wi Sm.rf)) s0.2.2.2.2.1) (b1 c1) ?_
    refine g_iadd 61 dX9_tells_60 rfl ?_
    refine g_putI 64 dX9_tells_61 rfl flX9_266 (Sm.k (Sm.wi (Sm.wi Sm.rf)) s0.1) ?_
    exact g_sub [1, 2, 0] _ rfl (h2 c1)
  · skip
    refine g_iload_n 2 13 dX9_tells_12 rfl rfl ?_
    exact g_iret dX9_tells_13 rfl (Nat.zero_le _) (Nat.zero_le _) (h3 c1)

set_option maxRecDepth 4000 in
theorem sX9_tells_64 {N : Nat} {K : Nat} {X : gX} {d mc ms : Nat} {Q : Option Value → gM → Prop} {M : gM} {c z : Nat} {a0 : Nat} {x1 : Int32} {y3 : Int64} (s0 : Mo M a0) (h1 : ((g_mi M a0 23) ≤ (g_mi M a0 22)) → Q (some (.int (((y3 : Int64).toInt32)))) M) (w2 : c ≤ mc) (w3 : z ≤ ms) (b4 : (¬ (g_mi M a0 23) ≤ (g_mi M a0 22)) → EX9_codeAt M a0 (g_mi M a0 22)) (b5 : (¬ (g_mi M a0 23) ≤ (g_mi M a0 22)) → (¬ (fX9_codeAt M a0 (g_mi M a0 22)) = 2) → EX9_sumOf N K (g_wi (g_wi M a0 24 0) a0 22 ((g_mi (g_wi M a0 24 0) a0 22) + 1)) a0 1) (b6 : (¬ (g_mi M a0 23) ≤ (g_mi M a0 22)) → (¬ (fX9_codeAt M a0 (g_mi M a0 22)) = 2) → EX9_passes0 (g_wi (mX9_sumOf N K (g_wi (g_wi M a0 24 0) a0 22 ((g_mi (g_wi M a0 24 0) a0 22) + 1)) a0 1) a0 24 0) a0 3) (h7 : (¬ (g_mi M a0 23) ≤ (g_mi M a0 22)) → (¬ (fX9_codeAt M a0 (g_mi M a0 22)) = 2) → ((fX9_passes0 (g_wi (mX9_sumOf N K (g_wi (g_wi M a0 24 0) a0 22 ((g_mi (g_wi M a0 24 0) a0 22) + 1)) a0 1) a0 24 0) a0 3) = 0) → Go X (d + K + 7) mc ms kX9_tells Q 144 [(0, .ref a0), (1, .int (x1)), (3, .long (y3)), (5, .int ((fX9_codeAt M a0 (g_mi M a0 22)))), (6, .long ((fX9_sumOf N K (g_wi (g_wi M a0 24 0) a0 22 ((g_mi (g_wi M a0 24 0) a0 22) + 1)) a0 1))), (8, .int ((g_mi (mX9_sumOf N K (g_wi (g_wi M a0 24 0) a0 22 ((g_mi (g_wi M a0 24 0) a0 22) + 1)) a0 1) a0 24)))] [] (mX9_passes0 (g_wi (mX9_sumOf N K (g_wi (g_wi M a0 24 0) a0 22 ((g_mi (g_wi M a0 24 0) a0 22) + 1)) a0 1) a0 24 0) a0 3) c z) (b8 : (¬ (g_mi M a0 23) ≤ (g_mi M a0 22)) → (¬ (fX9_codeAt M a0 (g_mi M a0 22)) = 2) → (¬ (fX9_passes0 (g_wi (mX9_sumOf N K (g_wi (g_wi M a0 24 0) a0 22 ((g_mi (g_wi M a0 24 0) a0 22) + 1)) a0 1) a0 24 0) a0 3) = 0) → EX9_testOf N K (mX9_passes0 (g_wi (mX9_sumOf N K (g_wi (g_wi M a0 24 0) a0 22 ((g_mi (g_wi M a0 24 0) a0 22) + 1)) a0 1) a0 24 0) a0 3) a0 1) (h9 : (¬ (g_mi M a0 23) ≤ (g_mi M a0 22)) → (¬ (fX9_codeAt M a0 (g_mi M a0 22)) = 2) → (¬ (fX9_passes0 (g_wi (mX9_sumOf N K (g_wi (g_wi M a0 24 0) a0 22 ((g_mi (g_wi M a0 24 0) a0 22) + 1)) a0 1) a0 24 0) a0 3) = 0) → ((fX9_testOf N K (mX9_passes0 (g_wi (mX9_sumOf N K (g_wi (g_wi M a0 24 0) a0 22 ((g_mi (g_wi M a0 24 0) a0 22) + 1)) a0 1) a0 24 0) a0 3) a0 1) = 0) → (¬ (fX9_codeAt M a0 (g_mi M a0 22)) = x1) → Go X (d + K + 7) mc ms kX9_tells Q 203 [(0, .ref a0), (1, .int (x1)), (3, .long (y3))] [] (mX9_testOf N K (mX9_passes0 (g_wi (mX9_sumOf N K (g_wi (g_wi M a0 24 0) a0 22 ((g_mi (g_wi M a0 24 0) a0 22) + 1)) a0 1) a0 24 0) a0 3) a0 1) c z) (h10 : (¬ (g_mi M a0 23) ≤ (g_mi M a0 22)) → (¬ (fX9_codeAt M a0 (g_mi M a0 22)) = 2) → (¬ (fX9_passes0 (g_wi (mX9_sumOf N K (g_wi (g_wi M a0 24 0) a0 22 ((g_mi (g_wi M a0 24 0) a0 22) + 1)) a0 1) a0 24 0) a0 3) = 0) → ((fX9_testOf N K (mX9_passes0 (g_wi (mX9_sumOf N K (g_wi (g_wi M a0 24 0) a0 22 ((g_mi (g_wi M a0 24 0) a0 22) + 1)) a0 1) a0 24 0) a0 3) a0 1) = 0) → ((fX9_codeAt M a0 (g_mi M a0 22)) = x1) → Go X (d + K + 7) mc ms kX9_tells Q 203 [(0, .ref a0), (1, .int (x1)), (3, .long (y3))] [] (mX9_testOf N K (mX9_passes0 (g_wi (mX9_sumOf N K (g_wi (g_wi M a0 24 0) a0 22 ((g_mi (g_wi M a0 24 0) a0 22) + 1)) a0 1) a0 24 0) a0 3) a0 1) c z) (h11 : (¬ (g_mi M a0 23) ≤ (g_mi M a0 22)) → (¬ (fX9_codeAt M a0 (g_mi M a0 22)) = 2) → (¬ (fX9_passes0 (g_wi (mX9_sumOf N K (g_wi (g_wi M a0 24 0) a0 22 ((g_mi (g_wi M a0 24 0) a0 22) + 1)) a0 1) a0 24 0) a0 3) = 0) → (¬ (fX9_testOf N K (mX9_passes0 (g_wi (mX9_sumOf N K (g_wi (g_wi M a0 24 0) a0 22 ((g_mi (g_wi M a0 24 0) a0 22) + 1)) a0 1) a0 24 0) a0 3) a0 1) = 0) → Go X (d + K + 7) mc ms kX9_tells Q 144 [(0, .ref a0), (1, .int (x1)), (3, .long (y3)), (5, .int ((fX9_codeAt M a0 (g_mi M a0 22)))), (6, .long ((fX9_sumOf N K (g_wi (g_wi M a0 24 0) a0 22 ((g_mi (g_wi M a0 24 0) a0 22) + 1)) a0 1))), (8, .int ((g_mi (mX9_sumOf N K (g_wi (g_wi M a0 24 0) a0 22 ((g_mi (g_wi M a0 24 0) a0 22) + 1)) a0 1) a0 24)))] [] (mX9_testOf N K (mX9_passes0 (g_wi (mX9_sumOf N K (g_wi (g_wi M a0 24 0) a0 22 ((g_mi (g_wi M a0 24 0) a0 22) + 1)) a0 1) a0 24 0) a0 3) a0 1) c z) (b12 : (¬ (g_mi M a0 23) ≤ (g_mi M a0 22)) → ((fX9_codeAt M a0 (g_mi M a0 22)) = 2) → EX9_passes0 (g_wi (g_wi (g_wi M a0 24 0) a0 22 ((g_mi (g_wi M a0 24 0) a0 22) + 1)) a0 24 0) a0 3) (h13 : (¬ (g_mi M a0 23) ≤ (g_mi M a0 22)) → ((fX9_codeAt M a0 (g_mi M a0 22)) = 2) → ((fX9_passes0 (g_wi (g_wi (g_wi M a0 24 0) a0 22 ((g_mi (g_wi M a0 24 0) a0 22) + 1)) a0 24 0) a0 3) = 0) → Go X (d + K + 7) mc ms kX9_tells Q 144 [(0, .ref a0), (1, .int (x1)), (3, .long (y3)), (5, .int ((fX9_codeAt M a0 (g_mi M a0 22)))), (6, .long (1)), (8, .int ((g_mi (g_wi (g_wi M a0 24 0) a0 22 ((g_mi (g_wi M a0 24 0) a0 22) + 1)) a0 24)))] [] (mX9_passes0 (g_wi (g_wi (g_wi M a0 24 0) a0 22 ((g_mi (g_wi M a0 24 0) a0 22) + 1)) a0 24 0) a0 3) c z) (b14 : (¬ (g_mi M a0 23) ≤ (g_mi M a0 22)) → ((fX9_codeAt M a0 (g_mi M a0 22)) = 2) → (¬ (fX9_passes0 (g_wi (g_wi (g_wi M a0 24 0) a0 22 ((g_mi (g_wi M a0 24 0) a0 22) + 1)) a0 24 0) a0 3) = 0) → EX9_testOf N K (mX9_passes0 (g_wi (g_wi (g_wi M a0 24 0) a0 22 ((g_mi (g_wi M a0 24 0) a0 22) + 1)) a0 24 0) a0 3) a0 1) (h15 : (¬ (g_mi M a0 23) ≤ (g_mi M a0 22)) → ((fX9_codeAt M a0 (g_mi M a0 22)) = 2) → (¬ (fX9_passes0 (g_wi (g_wi (g_wi M a0 24 0) a0 22 ((g_mi (g_wi M a0 24 0) a0 22) + 1)) a0 24 0) a0 3) = 0) → ((fX9_testOf N K (mX9_passes0 (g_wi (g_wi (g_wi M a0 24 0) a0 22 ((g_mi (g_wi M a0 24 0) a0 22) + 1)) a0 24 0) a0 3) a0 1) = 0) → (¬ (fX9_codeAt M a0 (g_mi M a0 22)) = x1) → Go X (d + K + 7) mc ms kX9_tells Q 203 [(0, .ref a0), (1, .int (x1)), (3, .long (y3))] [] (mX9_testOf N K (mX9_passes0 (g_wi (g_wi (g_wi M a0 24 0) a0 22 ((g_mi (g_wi M a0 24 0) a0 22) + 1)) a0 24 0) a0 3) a0 1) c z) (h16 : (¬ (g_mi M a0 23) ≤ (g_mi M a0 22)) → ((fX9_codeAt M a0 (g_mi M a0 22)) = 2) → (¬ (fX9_passes0 (g_wi (g_wi (g_wi M a0 24 0) a0 22 ((g_mi (g_wi M a0 24 0) a0 22) + 1)) a0 24 0) a0 3) = 0) → ((fX9_testOf N K (mX9_passes0 (g_wi (g_wi (g_wi M a0 24 0) a0 22 ((g_mi (g_wi M a0 24 0) a0 22) + 1)) a0 24 0) a0 3) a0 1) = 0) → ((fX9_codeAt M a0 (g_mi M a0 22)) = x1) → Go X (d + K + 7) mc ms kX9_tells Q 203 [(0, .ref a0), (1, .int (x1)), (3, .long (y3))] [] (mX9_testOf N K (mX9_passes0 (g_wi (g_wi (g_wi M a0 24 0) a0 22 ((g_mi (g_wi M a0 24 0) a0 22) + 1)) a0 24 0) a0 3) a0 1) c z) (h17 : (¬ (g_mi M a0 23) ≤ (g_mi M a0 22)) → ((fX9_codeAt M a0 (g_mi M a0 22)) = 2) → (¬ (fX9_passes0 (g_wi (g_wi (g_wi M a0 24 0) a0 22 ((g_mi (g_wi M a0 24 0) a0 22) + 1)) a0 24 0) a0 3) = 0) → (¬ (fX9_testOf N K (mX9_passes0 (g_wi (g_wi (g_wi M a0 24 0) a0 22 ((g_mi (g_wi M a0 24 0) a0 22) + 1)) a0 24 0) a0 3) a0 1) = 0) → Go X (d + K + 7) mc ms kX9_tells Q 144 [(0, .ref a0), (1, .int (x1)), (3, .long (y3)), (5, .int ((fX9_codeAt M a0 (g_mi M a0 22)))), (6, .long (1)), (8, .int ((g_mi (g_wi (g_wi M a0 24 0) a0 22 ((g_mi (g_wi M a0 24 0) a0 22) + 1)) a0 24)))] [] (mX9_testOf N K (mX9_passes0 (g_wi (g_wi (g_wi M a0 24 0) a0 22 ((g_mi (g_wi M a0 24 0) a0 22) + 1)) a0 24 0) a0 3) a0 1) c z) : Go X (d + K + 7) mc ms kX9_tells Q 64 [(0, .ref a0), (1, .int (x1)), (3, .long (y3))] [] M c z := by
  refine g_aload_n 0 65 dX9_tells_64 rfl rfl ?_
  refine g_getI 68 dX9_tells_65 rfl flX9_269 s0.1 ?_
  refine g_aload_n 0 69 dX9_tells_68 rfl rfl ?_
  refine g_getI 72 dX9_tells_69 rfl flX9_266 s0.1 ?_
  refine g_icmp_ge 216 75 dX9_tells_72 rfl rfl (fun c1 => ?_) (fun c1 => ?_)
  · skip
    refine g_lload_n 2 217 dX9_tells_216 rfl rfl ?_
    refine g_l2i 218 dX9_tells_217 rfl ?_
    exact g_iret dX9_tells_218 rfl (w2) (w3) (h1 c1)
  · skip
    refine g_aload_n 0 76 dX9_tells_75 rfl rfl ?_
    refine g_aload_n 0 77 dX9_tells_76 rfl rfl ?_
    refine g_getI 80 dX9_tells_77 rfl flX9_269 s0.1 ?_
    refine g_callV (mc1 := 0) (ms1 := 0) (b := a0) (rest := []) (av := [.int ((g_mi M a0 22))]) kX9_codeAt 83 dX9_tells_80 rfl rfl mbX9_272 imX9_codeAt seX9_codeAt gcl9.1 s0.1 (Nat.le_of_ble_eq_true rfl) (w2) (w3) (tX9_codeAt s0 (b4 c1) ?_)
    show Go X (d + K + 7) mc ms kX9_tells Q 83 [(0, .ref a0), (1, .int (x1)), (3, .long (y3))] [.int ((fX9_codeAt M a0 (g_mi M a0 22)))] M c z
    refine g_istore 85 [(5, .int ((fX9_codeAt M a0 (g_mi M a0 22)))), (0, .ref a0), (1, .int (x1)), (3, .long (y3))] dX9_tells_83 rfl (Nat.le_of_ble_eq_true rfl) rfl ?_
    refine g_aload_n 1 86 dX9_tells_85 rfl rfl ?_
    refine g_iconst (0) 87 dX9_tells_86 rfl rfl ?_
    refine g_putZ 90 dX9_tells_87 rfl flX9_279 s0.1 (by decide) ?_
    refine g_aload_n 1 91 dX9_tells_90 rfl rfl ?_
    refine g_dup 92 dX9_tells_91 rfl rfl ?_
    refine g_getI 95 dX9_tells_92 rfl flX9_269 (Sm.k (Sm.wi Sm.rf) s0.1) ?_
    refine g_iconst (1) 96 dX9_tells_95 rfl rfl ?_
    refine g_iadd 97 dX9_tells_96 rfl ?_
    refine g_putI 100 dX9_tells_97 rfl flX9_269 (Sm.k (Sm.wi Sm.rf) s0.1) ?_
    refine g_iload 0 102 dX9_tells_100 rfl rfl ?_
    refine g_iconst (2) 103 dX9_tells_102 rfl rfl ?_
    refine g_icmp_ne 110 106 dX9_tells_103 rfl rfl (fun c2 => ?_) (fun c2 => ?_)
    · skip
      refine g_aload_n 1 111 dX9_tells_110 rfl rfl ?_
      refine g_iconst (1) 112 dX9_tells_111 rfl rfl ?_
      refine g_callV (mc1 := 0) (ms1 := 0) (b := a0) (rest := []) (av := [.int (1)]) kX9_sumOf 115 dX9_tells_112 rfl rfl mbX9_296 imX9_sumOf seX9_sumOf gcl9.1 (Sm.k (Sm.wi (Sm.wi Sm.rf)) s0.1) (Nat.le_of_ble_eq_true rfl) (w2) (w3) (tX9_sumOf (N := N) (K := K) (Mo.sm (Sm.wi (Sm.wi Sm.rf)) s0) (b5 c1 c2) ?_)
      show Go X (d + K + 7) mc ms kX9_tells Q 115 [(5, .int ((fX9_codeAt M a0 (g_mi M a0 22)))), (0, .ref a0), (1, .int (x1)), (3, .long (y3))] [.long ((fX9_sumOf N K (g_wi (g_wi M a0 24 0) a0 22 ((g_mi (g_wi M a0 24 0) a0 22) + 1)) a0 1))] (mX9_sumOf N K (g_wi (g_wi M a0 24 0) a0 22 ((g_mi (g_wi M a0 24 0) a0 22) + 1)) a0 1) c z
      refine g_lstore 117 [(6, .long ((fX9_sumOf N K (g_wi (g_wi M a0 24 0) a0 22 ((g_mi (g_wi M a0 24 0) a0 22) + 1)) a0 1))), (5, .int ((fX9_codeAt M a0 (g_mi M a0 22)))), (0, .ref a0), (1, .int (x1)), (3, .long (y3))] dX9_tells_115 rfl (Nat.le_of_ble_eq_true rfl) rfl ?_
      refine g_aload_n 2 118 dX9_tells_117 rfl rfl ?_
      refine g_getI 121 dX9_tells_118 rfl flX9_279 (Sm.k (Sm.tr (Sm.wi (Sm.wi Sm.rf)) jX9_sumOf) s0.1) ?_
      refine g_istore 123 [(8, .int ((g_mi (mX9_sumOf N K (g_wi (g_wi M a0 24 0) a0 22 ((g_mi (g_wi M a0 24 0) a0 22) + 1)) a0 1) a0 24))), (6, .long ((fX9_sumOf N K (g_wi (g_wi M a0 24 0) a0 22 ((g_mi (g_wi M a0 24 0) a0 22) + 1)) a0 1))), (5, .int ((fX9_codeAt M a0 (g_mi M a0 22)))), (0, .ref a0), (1, .int (x1)), (3, .long (y3))] dX9_tells_121 rfl (Nat.le_of_ble_eq_true rfl) rfl ?_
      refine g_aload_n 3 124 dX9_tells_123 rfl rfl ?_
      refine g_iconst (0) 125 dX9_tells_124 rfl rfl ?_
      refine g_putZ 128 dX9_tells_125 rfl flX9_279 (Sm.k (Sm.tr (Sm.wi (Sm.wi Sm.rf)) jX9_sumOf) s0.1) (by decide) ?_
      refine g_aload_n 3 129 dX9_tells_128 rfl rfl ?_
      refine g_iconst (3) 130 dX9_tells_129 rfl rfl ?_
      refine g_callV (mc1 := 0) (ms1 := 0) (b := a0) (rest := []) (av := [.int (3)]) kX9_passes0 133 dX9_tells_130 rfl rfl mbX9_293 imX9_passes0 seX9_passes0 gcl9.1 (Sm.k (Sm.wi (Sm.tr (Sm.wi (Sm.wi Sm.rf)) jX9_sumOf)) s0.1) (Nat.le_of_ble_eq_true rfl) (w2) (w3) (tX9_passes0 (Mo.sm (Sm.wi (Sm.tr (Sm.wi (Sm.wi Sm.rf)) jX9_sumOf)) s0) (b6 c1 c2) ?_)
      show Go X (d + K + 7) mc ms kX9_tells Q 133 [(8, .int ((g_mi (mX9_sumOf N K (g_wi (g_wi M a0 24 0) a0 22 ((g_mi (g_wi M a0 24 0) a0 22) + 1)) a0 1) a0 24))), (6, .long ((fX9_sumOf N K (g_wi (g_wi M a0 24 0) a0 22 ((g_mi (g_wi M a0 24 0) a0 22) + 1)) a0 1))), (5, .int ((fX9_codeAt M a0 (g_mi M a0 22)))), (0, .ref a0), (1, .int (x1)), (3, .long (y3))] [.int ((fX9_passes0 (g_wi (mX9_sumOf N K (g_wi (g_wi M a0 24 0) a0 22 ((g_mi (g_wi M a0 24 0) a0 22) + 1)) a0 1) a0 24 0) a0 3))] (mX9_passes0 (g_wi (mX9_sumOf N K (g_wi (g_wi M a0 24 0) a0 22 ((g_mi (g_wi M a0 24 0) a0 22) + 1)) a0 1) a0 24 0) a0 3) c z
      refine g_if_eq 144 136 dX9_tells_133 rfl rfl (fun c3 => ?_) (fun c3 => ?_)
      · skip
        exact g_sub [3, 4, 5, 2, 1, 0] _ rfl (h7 c1 c2 c3)
      · skip
        refine g_aload_n 3 137 dX9_tells_136 rfl rfl ?_
        refine g_iconst (1) 138 dX9_tells_137 rfl rfl ?_
        refine g_callV (mc1 := 0) (ms1 := 0) (b := a0) (rest := []) (av := [.int (1)]) kX9_testOf 141 dX9_tells_138 rfl rfl mbX9_323 imX9_testOf seX9_testOf gcl9.1 (Sm.k (Sm.tr (Sm.wi (Sm.tr (Sm.wi (Sm.wi Sm.rf)) jX9_sumOf)) jX9_passes0) s0.1) (Nat.le_of_ble_eq_true rfl) (w2) (w3) (tX9_testOf (N := N) (K := K) (Mo.sm (Sm.tr (Sm.wi (Sm.tr (Sm.wi (Sm.wi Sm.rf)) jX9_sumOf)) jX9_passes0) s0) (b8 c1 c2 c3) ?_)
        show Go X (d + K + 7) mc ms kX9_tells Q 141 [(8, .int ((g_mi (mX9_sumOf N K (g_wi (g_wi M a0 24 0) a0 22 ((g_mi (g_wi M a0 24 0) a0 22) + 1)) a0 1) a0 24))), (6, .long ((fX9_sumOf N K (g_wi (g_wi M a0 24 0) a0 22 ((g_mi (g_wi M a0 24 0) a0 22) + 1)) a0 1))), (5, .int ((fX9_codeAt M a0 (g_mi M a0 22)))), (0, .ref a0), (1, .int (x1)), (3, .long (y3))] [.int ((fX9_testOf N K (mX9_passes0 (g_wi (mX9_sumOf N K (g_wi (g_wi M a0 24 0) a0 22 ((g_mi (g_wi M a0 24 0) a0 22) + 1)) a0 1) a0 24 0) a0 3) a0 1))] (mX9_testOf N K (mX9_passes0 (g_wi (mX9_sumOf N K (g_wi (g_wi M a0 24 0) a0 22 ((g_mi (g_wi M a0 24 0) a0 22) + 1)) a0 1) a0 24 0) a0 3) a0 1) c z
        refine g_if_eq 148 144 dX9_tells_141 rfl rfl (fun c4 => ?_) (fun c4 => ?_)
        · skip
          refine g_iconst (0) 149 dX9_tells_148 rfl rfl ?_
          refine g_istore 151 [(9, .int (0)), (8, .int ((g_mi (mX9_sumOf N K (g_wi (g_wi M a0 24 0) a0 22 ((g_mi (g_wi M a0 24 0) a0 22) + 1)) a0 1) a0 24))), (6, .long ((fX9_sumOf N K (g_wi (g_wi M a0 24 0) a0 22 ((g_mi (g_wi M a0 24 0) a0 22) + 1)) a0 1))), (5, .int ((fX9_codeAt M a0 (g_mi M a0 22)))), (0, .ref a0), (1, .int (x1)), (3, .long (y3))] dX9_tells_149 rfl (Nat.le_of_ble_eq_true rfl) rfl ?_
          refine g_iload 3 153 dX9_tells_151 rfl rfl ?_
          refine g_iload_n 5 154 dX9_tells_153 rfl rfl ?_
          refine g_icmp_ne 203 157 dX9_tells_154 rfl rfl (fun c5 => ?_) (fun c5 => ?_)
          · skip
            exact g_sub [4, 5, 6] _ rfl (h9 c1 c2 c3 c4 c5)
          · skip
            refine g_iload 0 159 dX9_tells_157 rfl rfl ?_
            refine g_if_eq 203 162 dX9_tells_159 rfl rfl (fun _ => ?_) (fun q => absurd q (by decide))
            exact g_sub [4, 5, 6] _ rfl (h10 c1 c2 c3 c4 c5)
        · skip
          exact g_sub [3, 4, 5, 2, 1, 0] _ rfl (h11 c1 c2 c3 c4)
    · skip
      refine g_lconst (1) 107 dX9_tells_106 rfl rfl ?_
      refine g_goto 115 dX9_tells_107 rfl ?_
      refine g_lstore 117 [(6, .long (1)), (5, .int ((fX9_codeAt M a0 (g_mi M a0 22)))), (0, .ref a0), (1, .int (x1)), (3, .long (y3))] dX9_tells_115 rfl (Nat.le_of_ble_eq_true rfl) rfl ?_
      refine g_aload_n 2 118 dX9_tells_117 rfl rfl ?_
      refine g_getI 121 dX9_tells_118 rfl flX9_279 (Sm.k (Sm.wi (Sm.wi Sm.rf)) s0.1) ?_
      refine g_istore 123 [(8, .int ((g_mi (g_wi (g_wi M a0 24 0) a0 22 ((g_mi (g_wi M a0 24 0) a0 22) + 1)) a0 24))), (6, .long (1)), (5, .int ((fX9_codeAt M a0 (g_mi M a0 22)))), (0, .ref a0), (1, .int (x1)), (3, .long (y3))] dX9_tells_121 rfl (Nat.le_of_ble_eq_true rfl) rfl ?_
      refine g_aload_n 3 124 dX9_tells_123 rfl rfl ?_
      refine g_iconst (0) 125 dX9_tells_124 rfl rfl ?_
      refine g_putZ 128 dX9_tells_125 rfl flX9_279 (Sm.k (Sm.wi (Sm.wi Sm.rf)) s0.1) (by decide) ?_
      refine g_aload_n 3 129 dX9_tells_128 rfl rfl ?_
      refine g_iconst (3) 130 dX9_tells_129 rfl rfl ?_
      refine g_callV (mc1 := 0) (ms1 := 0) (b := a0) (rest := []) (av := [.int (3)]) kX9_passes0 133 dX9_tells_130 rfl rfl mbX9_293 imX9_passes0 seX9_passes0 gcl9.1 (Sm.k (Sm.wi (Sm.wi (Sm.wi Sm.rf))) s0.1) (Nat.le_of_ble_eq_true rfl) (w2) (w3) (tX9_passes0 (Mo.sm (Sm.wi (Sm.wi (Sm.wi Sm.rf))) s0) (b12 c1 c2) ?_)
      show Go X (d + K + 7) mc ms kX9_tells Q 133 [(8, .int ((g_mi (g_wi (g_wi M a0 24 0) a0 22 ((g_mi (g_wi M a0 24 0) a0 22) + 1)) a0 24))), (6, .long (1)), (5, .int ((fX9_codeAt M a0 (g_mi M a0 22)))), (0, .ref a0), (1, .int (x1)), (3, .long (y3))] [.int ((fX9_passes0 (g_wi (g_wi (g_wi M a0 24 0) a0 22 ((g_mi (g_wi M a0 24 0) a0 22) + 1)) a0 24 0) a0 3))] (mX9_passes0 (g_wi (g_wi (g_wi M a0 24 0) a0 22 ((g_mi (g_wi M a0 24 0) a0 22) + 1)) a0 24 0) a0 3) c z
      refine g_if_eq 144 136 dX9_tells_133 rfl rfl (fun c6 => ?_) (fun c6 => ?_)
      · skip
        exact g_sub [3, 4, 5, 2, 1, 0] _ rfl (h13 c1 c2 c6)
      · skip
        refine g_aload_n 3 137 dX9_tells_136 rfl rfl ?_
        refine g_iconst (1) 138 dX9_tells_137 rfl rfl ?_
        refine g_callV (mc1 := 0) (ms1 := 0) (b := a0) (rest := []) (av := [.int (1)]) kX9_testOf 141 dX9_tells_138 rfl rfl mbX9_323 imX9_testOf seX9_testOf gcl9.1 (Sm.k (Sm.tr (Sm.wi (Sm.wi (Sm.wi Sm.rf))) jX9_passes0) s0.1) (Nat.le_of_ble_eq_true rfl) (w2) (w3) (tX9_testOf (N := N) (K := K) (Mo.sm (Sm.tr (Sm.wi (Sm.wi (Sm.wi Sm.rf))) jX9_passes0) s0) (b14 c1 c2 c6) ?_)
        show Go X (d + K + 7) mc ms kX9_tells Q 141 [(8, .int ((g_mi (g_wi (g_wi M a0 24 0) a0 22 ((g_mi (g_wi M a0 24 0) a0 22) + 1)) a0 24))), (6, .long (1)), (5, .int ((fX9_codeAt M a0 (g_mi M a0 22)))), (0, .ref a0), (1, .int (x1)), (3, .long (y3))] [.int ((fX9_testOf N K (mX9_passes0 (g_wi (g_wi (g_wi M a0 24 0) a0 22 ((g_mi (g_wi M a0 24 0) a0 22) + 1)) a0 24 0) a0 3) a0 1))] (mX9_testOf N K (mX9_passes0 (g_wi (g_wi (g_wi M a0 24 0) a0 22 ((g_mi (g_wi M a0 24 0) a0 22) + 1)) a0 24 0) a0 3) a0 1) c z
        refine g_if_eq 148 144 dX9_tells_141 rfl rfl (fun c7 => ?_) (fun c7 => ?_)
        · skip
          refine g_iconst (0) 149 dX9_tells_148 rfl rfl ?_
          refine g_istore 151 [(9, .int (0)), (8, .int ((g_mi (g_wi (g_wi M a0 24 0) a0 22 ((g_mi (g_wi M a0 24 0) a0 22) + 1)) a0 24))), (6, .long (1)), (5, .int ((fX9_codeAt M a0 (g_mi M a0 22)))), (0, .ref a0), (1, .int (x1)), (3, .long (y3))] dX9_tells_149 rfl (Nat.le_of_ble_eq_true rfl) rfl ?_
          refine g_iload 3 153 dX9_tells_151 rfl rfl ?_
          refine g_iload_n 5 154 dX9_tells_153 rfl rfl ?_
          refine g_icmp_ne 203 157 dX9_tells_154 rfl rfl (fun c8 => ?_) (fun c8 => ?_)
          · skip
            exact g_sub [4, 5, 6] _ rfl (h15 c1 c2 c6 c7 c8)
          · skip
            refine g_iload 0 159 dX9_tells_157 rfl rfl ?_
            refine g_if_eq 203 162 dX9_tells_159 rfl rfl (fun _ => ?_) (fun q => absurd q (by decide))
            exact g_sub [4, 5, 6] _ rfl (h16 c1 c2 c6 c7 c8)
        · skip
          exact g_sub [3, 4, 5, 2, 1, 0] _ rfl (h17 c1 c2 c6 c7)

set_option maxRecDepth 4000 in
theorem sX9_tells_144 {K : Nat} {X : gX} {d mc ms : Nat} {Q : Option Value → gM → Prop} {M : gM} {c z : Nat} {a0 : Nat} {x1 : Int32} {y3 : Int64} {x5 : Int32} {y6 : Int64} {x8 : Int32} (s0 : Mo M a0) (h1 : (¬ x5 = x1) → Go X (d + K + 7) mc ms kX9_tells Q 203 [(0, .ref a0), (1, .int (x1)), (3, .long (y3))] [] M c z) (h2 : (x5 = x1) → (¬ (g_mi M a0 24) = 0) → Go X (d + K + 7) mc ms kX9_tells Q 203 [(0, .ref a0), (1, .int (x1)), (3, .long (y3))] [] M c z) (h3 : (x5 = x1) → ((g_mi M a0 24) = 0) → (¬ x8 = 0) → Go X (d + K + 7) mc ms kX9_tells Q 203 [(0, .ref a0), (1, .int (x1)), (3, .long (y3))] [] M c z) (h4 : (x5 = x1) → ((g_mi M a0 24) = 0) → (x8 = 0) → (0 ≤ (lg_cmp y6 0)) → ((lg_cmp y6 99) ≤ 0) → Go X (d + K + 7) mc ms kX9_tells Q 203 [(0, .ref a0), (1, .int (x1)), (3, .long (y6))] [] M c z) (h5 : (x5 = x1) → ((g_mi M a0 24) = 0) → (x8 = 0) → (0 ≤ (lg_cmp y6 0)) → (¬ (lg_cmp y6 99) ≤ 0) → Go X (d + K + 7) mc ms kX9_tells Q 203 [(0, .ref a0), (1, .int (x1)), (3, .long (99))] [] M c z) (h6 : (x5 = x1) → ((g_mi M a0 24) = 0) → (x8 = 0) → (¬ 0 ≤ (lg_cmp y6 0)) → Go X (d + K + 7) mc ms kX9_tells Q 203 [(0, .ref a0), (1, .int (x1)), (3, .long (0))] [] M c z) : Go X (d + K + 7) mc ms kX9_tells Q 144 [(0, .ref a0), (1, .int (x1)), (3, .long (y3)), (5, .int (x5)), (6, .long (y6)), (8, .int (x8))] [] M c z := by
  refine g_iconst (1) 145 dX9_tells_144 rfl rfl ?_
  refine g_goto 149 dX9_tells_145 rfl ?_
  refine g_istore 151 [(9, .int (1)), (0, .ref a0), (1, .int (x1)), (3, .long (y3)), (5, .int (x5)), (6, .long (y6)), (8, .int (x8))] dX9_tells_149 rfl (Nat.le_of_ble_eq_true rfl) rfl ?_
  refine g_iload 4 153 dX9_tells_151 rfl rfl ?_
  refine g_iload_n 2 154 dX9_tells_153 rfl rfl ?_
  refine g_icmp_ne 203 157 dX9_tells_154 rfl rfl (fun c1 => ?_) (fun c1 => ?_)
  · skip
    exact g_sub [1, 2, 3] _ rfl (h1 c1)
  · skip
    refine g_iload 0 159 dX9_tells_157 rfl rfl ?_
    refine g_if_eq 203 162 dX9_tells_159 rfl rfl (fun q => absurd q (by decide)) (fun _ => ?_)
    refine g_aload_n 1 163 dX9_tells_162 rfl rfl ?_
    refine g_getI 166 dX9_tells_163 rfl flX9_279 s0.1 ?_
    refine g_if_ne 203 169 dX9_tells_166 rfl rfl (fun c2 => ?_) (fun c2 => ?_)
    · skip
      exact g_sub [1, 2, 3] _ rfl (h2 c1 c2)
    · skip
      refine g_iload 6 171 dX9_tells_169 rfl rfl ?_
      refine g_if_ne 203 174 dX9_tells_171 rfl rfl (fun c3 => ?_) (fun c3 => ?_)
      · skip
        exact g_sub [1, 2, 3] _ rfl (h3 c1 c2 c3)
      · skip
        refine g_lload 5 176 dX9_tells_174 rfl rfl ?_
        refine g_lconst (0) 177 dX9_tells_176 rfl rfl ?_
        refine g_lcmp 178 dX9_tells_177 rfl ?_
        refine g_if_ge 185 181 dX9_tells_178 rfl rfl (fun c4 => ?_) (fun c4 => ?_)
        · skip
          refine g_lload 5 187 dX9_tells_185 rfl rfl ?_
          refine g_ldc2 (99) 190 dX9_tells_187 rfl q6_54 ?_
          refine g_lcmp 191 dX9_tells_190 rfl ?_
          refine g_if_le 200 194 dX9_tells_191 rfl rfl (fun c5 => ?_) (fun c5 => ?_)
          · skip
            refine g_lload 5 202 dX9_tells_200 rfl rfl ?_
            refine g_lstore_n 203 [(3, .long (y6)), (9, .int (1)), (0, .ref a0), (1, .int (x1)), (5, .int (x5)), (6, .long (y6)), (8, .int (x8))] dX9_tells_202 rfl (Nat.le_of_ble_eq_true rfl) rfl ?_
            exact g_sub [2, 3, 0] _ rfl (h4 c1 c2 c3 c4 c5)
          · skip
            refine g_ldc2 (99) 197 dX9_tells_194 rfl q6_54 ?_
            refine g_goto 202 dX9_tells_197 rfl ?_
            refine g_lstore_n 203 [(3, .long (99)), (9, .int (1)), (0, .ref a0), (1, .int (x1)), (5, .int (x5)), (6, .long (y6)), (8, .int (x8))] dX9_tells_202 rfl (Nat.le_of_ble_eq_true rfl) rfl ?_
            exact g_sub [2, 3, 0] _ rfl (h5 c1 c2 c3 c4 c5)
        · skip
          refine g_lconst (0) 182 dX9_tells_181 rfl rfl ?_
          refine g_goto 202 dX9_tells_182 rfl ?_
          refine g_lstore_n 203 [(3, .long (0)), (9, .int (1)), (0, .ref a0), (1, .int (x1)), (5, .int (x5)), (6, .long (y6)), (8, .int (x8))] dX9_tells_202 rfl (Nat.le_of_ble_eq_true rfl) rfl ?_
          exact g_sub [2, 3, 0] _ rfl (h6 c1 c2 c3 c4)

set_option maxRecDepth 4000 in
theorem sX9_tells_203 {K : Nat} {X : gX} {d mc ms : Nat} {Q : Option Value → gM → Prop} {M : gM} {c z : Nat} {a0 : Nat} {x1 : Int32} {y3 : Int64} (s0 : Mo M a0) (h1 : Go X (d + K + 7) mc ms kX9_tells Q 64 [(0, .ref a0), (1, .int (x1)), (3, .long (y3))] [] (g_wi M a0 22 ((g_mi M a0 22) + 1)) c z) : Go X (d + K + 7) mc ms kX9_tells Q 203 [(0, .ref a0), (1, .int (x1)), (3, .long (y3))] [] M c z := by
  refine g_aload_n 0 204 dX9_tells_203 rfl rfl ?_
  refine g_dup 205 dX9_tells_204 rfl rfl ?_
  refine g_getI 208 dX9_tells_205 rfl flX9_269 s0.1 ?_
  refine g_iconst (1) 209 dX9_tells_208 rfl rfl ?_
  refine g_iadd 210 dX9_tells_209 rfl ?_
  refine g_putI 213 dX9_tells_210 rfl flX9_269 s0.1 ?_
  refine g_goto 64 dX9_tells_213 rfl ?_
  exact (h1)

def bX9_tells_0 (N : Nat) (K : Nat) (M : gM) (a0 : Nat) (x1 : Int32) (x2 : Int32) (k : Nat → (Nat → Nat → Int32) → Nat → Int32 → Int64 → Int32 → Int64 → Int32 → Int32 × (Nat → Nat → Int32)) : Int32 × (Nat → Nat → Int32) := (if (g_mi M (a0 + 2) 204) = (-1) then (x2, g_mi M) else (k 0 (g_mi (g_wi (g_wi (g_wi M a0 25 0) a0 22 (400 * (g_mi (g_wi M a0 25 0) (a0 + 2) 204))) a0 23 ((g_mi (g_wi (g_wi M a0 25 0) a0 22 (400 * (g_mi (g_wi M a0 25 0) (a0 + 2) 204))) a0 22) + (g_mi (g_wi (g_wi M a0 25 0) a0 22 (400 * (g_mi (g_wi M a0 25 0) (a0 + 2) 204))) (a0 + 2) ((205 + (g_mi (g_wi (g_wi M a0 25 0) a0 22 (400 * (g_mi (g_wi M a0 25 0) (a0 + 2) 204))) (a0 + 2) 204))).toNatClampNeg)))) a0 x1 ((x2 : Int32).toInt64) 0 0 0))
def eX9_tells_0 (N : Nat) (K : Nat) (M : gM) (a0 : Nat) (x1 : Int32) (x2 : Int32) (k : Nat → (Nat → Nat → Int32) → Nat → Int32 → Int64 → Int32 → Int64 → Int32 → Prop) : Prop := ((¬ (g_mi M (a0 + 2) 204) = (-1)) → vp_in ((205 + (g_mi (g_wi (g_wi M a0 25 0) a0 22 (400 * (g_mi (g_wi M a0 25 0) (a0 + 2) 204))) (a0 + 2) 204))) 5812) ∧ (if (g_mi M (a0 + 2) 204) = (-1) then True else (k 0 (g_mi (g_wi (g_wi (g_wi M a0 25 0) a0 22 (400 * (g_mi (g_wi M a0 25 0) (a0 + 2) 204))) a0 23 ((g_mi (g_wi (g_wi M a0 25 0) a0 22 (400 * (g_mi (g_wi M a0 25 0) (a0 + 2) 204))) a0 22) + (g_mi (g_wi (g_wi M a0 25 0) a0 22 (400 * (g_mi (g_wi M a0 25 0) (a0 + 2) 204))) (a0 + 2) ((205 + (g_mi (g_wi (g_wi M a0 25 0) a0 22 (400 * (g_mi (g_wi M a0 25 0) (a0 + 2) 204))) (a0 + 2) 204))).toNatClampNeg)))) a0 x1 ((x2 : Int32).toInt64) 0 0 0))
def bX9_tells_64 (N : Nat) (K : Nat) (M : gM) (f : Nat → Nat → Int32) (a0 : Nat) (x1 : Int32) (y3 : Int64) (k : Nat → (Nat → Nat → Int32) → Nat → Int32 → Int64 → Int32 → Int64 → Int32 → Int32 × (Nat → Nat → Int32)) : Int32 × (Nat → Nat → Int32) := (if (g_mi (g_wm M f (g_ml M)) a0 23) ≤ (g_mi (g_wm M f (g_ml M)) a0 22) then (((y3 : Int64).toInt32), g_mi (g_wm M f (g_ml M))) else (if (fX9_codeAt (g_wm M f (g_ml M)) a0 (g_mi (g_wm M f (g_ml M)) a0 22)) = 2 then (if (fX9_passes0 (g_wi (g_wi (g_wi (g_wm M f (g_ml M)) a0 24 0) a0 22 ((g_mi (g_wi (g_wm M f (g_ml M)) a0 24 0) a0 22) + 1)) a0 24 0) a0 3) = 0 then (k 1 (g_mi (mX9_passes0 (g_wi (g_wi (g_wi (g_wm M f (g_ml M)) a0 24 0) a0 22 ((g_mi (g_wi (g_wm M f (g_ml M)) a0 24 0) a0 22) + 1)) a0 24 0) a0 3)) a0 x1 y3 (fX9_codeAt (g_wm M f (g_ml M)) a0 (g_mi (g_wm M f (g_ml M)) a0 22)) 1 (g_mi (g_wi (g_wi (g_wm M f (g_ml M)) a0 24 0) a0 22 ((g_mi (g_wi (g_wm M f (g_ml M)) a0 24 0) a0 22) + 1)) a0 24)) else (if (fX9_testOf N K (mX9_passes0 (g_wi (g_wi (g_wi (g_wm M f (g_ml M)) a0 24 0) a0 22 ((g_mi (g_wi (g_wm M f (g_ml M)) a0 24 0) a0 22) + 1)) a0 24 0) a0 3) a0 1) = 0 then (if (fX9_codeAt (g_wm M f (g_ml M)) a0 (g_mi (g_wm M f (g_ml M)) a0 22)) = x1 then (k 2 (g_mi (mX9_testOf N K (mX9_passes0 (g_wi (g_wi (g_wi (g_wm M f (g_ml M)) a0 24 0) a0 22 ((g_mi (g_wi (g_wm M f (g_ml M)) a0 24 0) a0 22) + 1)) a0 24 0) a0 3) a0 1)) a0 x1 y3 0 0 0) else (k 2 (g_mi (mX9_testOf N K (mX9_passes0 (g_wi (g_wi (g_wi (g_wm M f (g_ml M)) a0 24 0) a0 22 ((g_mi (g_wi (g_wm M f (g_ml M)) a0 24 0) a0 22) + 1)) a0 24 0) a0 3) a0 1)) a0 x1 y3 0 0 0)) else (k 1 (g_mi (mX9_testOf N K (mX9_passes0 (g_wi (g_wi (g_wi (g_wm M f (g_ml M)) a0 24 0) a0 22 ((g_mi (g_wi (g_wm M f (g_ml M)) a0 24 0) a0 22) + 1)) a0 24 0) a0 3) a0 1)) a0 x1 y3 (fX9_codeAt (g_wm M f (g_ml M)) a0 (g_mi (g_wm M f (g_ml M)) a0 22)) 1 (g_mi (g_wi (g_wi (g_wm M f (g_ml M)) a0 24 0) a0 22 ((g_mi (g_wi (g_wm M f (g_ml M)) a0 24 0) a0 22) + 1)) a0 24)))) else (if (fX9_passes0 (g_wi (mX9_sumOf N K (g_wi (g_wi (g_wm M f (g_ml M)) a0 24 0) a0 22 ((g_mi (g_wi (g_wm M f (g_ml M)) a0 24 0) a0 22) + 1)) a0 1) a0 24 0) a0 3) = 0 then (k 1 (g_mi (mX9_passes0 (g_wi (mX9_sumOf N K (g_wi (g_wi (g_wm M f (g_ml M)) a0 24 0) a0 22 ((g_mi (g_wi (g_wm M f (g_ml M)) a0 24 0) a0 22) + 1)) a0 1) a0 24 0) a0 3)) a0 x1 y3 (fX9_codeAt (g_wm M f (g_ml M)) a0 (g_mi (g_wm M f (g_ml M)) a0 22)) (fX9_sumOf N K (g_wi (g_wi (g_wm M f (g_ml M)) a0 24 0) a0 22 ((g_mi (g_wi (g_wm M f (g_ml M)) a0 24 0) a0 22) + 1)) a0 1) (g_mi (mX9_sumOf N K (g_wi (g_wi (g_wm M f (g_ml M)) a0 24 0) a0 22 ((g_mi (g_wi (g_wm M f (g_ml M)) a0 24 0) a0 22) + 1)) a0 1) a0 24)) else (if (fX9_testOf N K (mX9_passes0 (g_wi (mX9_sumOf N K (g_wi (g_wi (g_wm M f (g_ml M)) a0 24 0) a0 22 ((g_mi (g_wi (g_wm M f (g_ml M)) a0 24 0) a0 22) + 1)) a0 1) a0 24 0) a0 3) a0 1) = 0 then (if (fX9_codeAt (g_wm M f (g_ml M)) a0 (g_mi (g_wm M f (g_ml M)) a0 22)) = x1 then (k 2 (g_mi (mX9_testOf N K (mX9_passes0 (g_wi (mX9_sumOf N K (g_wi (g_wi (g_wm M f (g_ml M)) a0 24 0) a0 22 ((g_mi (g_wi (g_wm M f (g_ml M)) a0 24 0) a0 22) + 1)) a0 1) a0 24 0) a0 3) a0 1)) a0 x1 y3 0 0 0) else (k 2 (g_mi (mX9_testOf N K (mX9_passes0 (g_wi (mX9_sumOf N K (g_wi (g_wi (g_wm M f (g_ml M)) a0 24 0) a0 22 ((g_mi (g_wi (g_wm M f (g_ml M)) a0 24 0) a0 22) + 1)) a0 1) a0 24 0) a0 3) a0 1)) a0 x1 y3 0 0 0)) else (k 1 (g_mi (mX9_testOf N K (mX9_passes0 (g_wi (mX9_sumOf N K (g_wi (g_wi (g_wm M f (g_ml M)) a0 24 0) a0 22 ((g_mi (g_wi (g_wm M f (g_ml M)) a0 24 0) a0 22) + 1)) a0 1) a0 24 0) a0 3) a0 1)) a0 x1 y3 (fX9_codeAt (g_wm M f (g_ml M)) a0 (g_mi (g_wm M f (g_ml M)) a0 22)) (fX9_sumOf N K (g_wi (g_wi (g_wm M f (g_ml M)) a0 24 0) a0 22 ((g_mi (g_wi (g_wm M f (g_ml M)) a0 24 0) a0 22) + 1)) a0 1) (g_mi (mX9_sumOf N K (g_wi (g_wi (g_wm M f (g_ml M)) a0 24 0) a0 22 ((g_mi (g_wi (g_wm M f (g_ml M)) a0 24 0) a0 22) + 1)) a0 1) a0 24))))))
def eX9_tells_64 (N : Nat) (K : Nat) (M : gM) (f : Nat → Nat → Int32) (a0 : Nat) (x1 : Int32) (y3 : Int64) (k : Nat → (Nat → Nat → Int32) → Nat → Int32 → Int64 → Int32 → Int64 → Int32 → Prop) : Prop := ((¬ (g_mi (g_wm M f (g_ml M)) a0 23) ≤ (g_mi (g_wm M f (g_ml M)) a0 22)) → EX9_codeAt (g_wm M f (g_ml M)) a0 (g_mi (g_wm M f (g_ml M)) a0 22)) ∧ ((¬ (g_mi (g_wm M f (g_ml M)) a0 23) ≤ (g_mi (g_wm M f (g_ml M)) a0 22)) → (¬ (fX9_codeAt (g_wm M f (g_ml M)) a0 (g_mi (g_wm M f (g_ml M)) a0 22)) = 2) → EX9_sumOf N K (g_wi (g_wi (g_wm M f (g_ml M)) a0 24 0) a0 22 ((g_mi (g_wi (g_wm M f (g_ml M)) a0 24 0) a0 22) + 1)) a0 1) ∧ ((¬ (g_mi (g_wm M f (g_ml M)) a0 23) ≤ (g_mi (g_wm M f (g_ml M)) a0 22)) → (¬ (fX9_codeAt (g_wm M f (g_ml M)) a0 (g_mi (g_wm M f (g_ml M)) a0 22)) = 2) → EX9_passes0 (g_wi (mX9_sumOf N K (g_wi (g_wi (g_wm M f (g_ml M)) a0 24 0) a0 22 ((g_mi (g_wi (g_wm M f (g_ml M)) a0 24 0) a0 22) + 1)) a0 1) a0 24 0) a0 3) ∧ ((¬ (g_mi (g_wm M f (g_ml M)) a0 23) ≤ (g_mi (g_wm M f (g_ml M)) a0 22)) → (¬ (fX9_codeAt (g_wm M f (g_ml M)) a0 (g_mi (g_wm M f (g_ml M)) a0 22)) = 2) → (¬ (fX9_passes0 (g_wi (mX9_sumOf N K (g_wi (g_wi (g_wm M f (g_ml M)) a0 24 0) a0 22 ((g_mi (g_wi (g_wm M f (g_ml M)) a0 24 0) a0 22) + 1)) a0 1) a0 24 0) a0 3) = 0) → EX9_testOf N K (mX9_passes0 (g_wi (mX9_sumOf N K (g_wi (g_wi (g_wm M f (g_ml M)) a0 24 0) a0 22 ((g_mi (g_wi (g_wm M f (g_ml M)) a0 24 0) a0 22) + 1)) a0 1) a0 24 0) a0 3) a0 1) ∧ ((¬ (g_mi (g_wm M f (g_ml M)) a0 23) ≤ (g_mi (g_wm M f (g_ml M)) a0 22)) → ((fX9_codeAt (g_wm M f (g_ml M)) a0 (g_mi (g_wm M f (g_ml M)) a0 22)) = 2) → EX9_passes0 (g_wi (g_wi (g_wi (g_wm M f (g_ml M)) a0 24 0) a0 22 ((g_mi (g_wi (g_wm M f (g_ml M)) a0 24 0) a0 22) + 1)) a0 24 0) a0 3) ∧ ((¬ (g_mi (g_wm M f (g_ml M)) a0 23) ≤ (g_mi (g_wm M f (g_ml M)) a0 22)) → ((fX9_codeAt (g_wm M f (g_ml M)) a0 (g_mi (g_wm M f (g_ml M)) a0 22)) = 2) → (¬ (fX9_passes0 (g_wi (g_wi (g_wi (g_wm M f (g_ml M)) a0 24 0) a0 22 ((g_mi (g_wi (g_wm M f (g_ml M)) a0 24 0) a0 22) + 1)) a0 24 0) a0 3) = 0) → EX9_testOf N K (mX9_passes0 (g_wi (g_wi (g_wi (g_wm M f (g_ml M)) a0 24 0) a0 22 ((g_mi (g_wi (g_wm M f (g_ml M)) a0 24 0) a0 22) + 1)) a0 24 0) a0 3) a0 1) ∧ (if (g_mi (g_wm M f (g_ml M)) a0 23) ≤ (g_mi (g_wm M f (g_ml M)) a0 22) then True else (if (fX9_codeAt (g_wm M f (g_ml M)) a0 (g_mi (g_wm M f (g_ml M)) a0 22)) = 2 then (if (fX9_passes0 (g_wi (g_wi (g_wi (g_wm M f (g_ml M)) a0 24 0) a0 22 ((g_mi (g_wi (g_wm M f (g_ml M)) a0 24 0) a0 22) + 1)) a0 24 0) a0 3) = 0 then (k 1 (g_mi (mX9_passes0 (g_wi (g_wi (g_wi (g_wm M f (g_ml M)) a0 24 0) a0 22 ((g_mi (g_wi (g_wm M f (g_ml M)) a0 24 0) a0 22) + 1)) a0 24 0) a0 3)) a0 x1 y3 (fX9_codeAt (g_wm M f (g_ml M)) a0 (g_mi (g_wm M f (g_ml M)) a0 22)) 1 (g_mi (g_wi (g_wi (g_wm M f (g_ml M)) a0 24 0) a0 22 ((g_mi (g_wi (g_wm M f (g_ml M)) a0 24 0) a0 22) + 1)) a0 24)) else (if (fX9_testOf N K (mX9_passes0 (g_wi (g_wi (g_wi (g_wm M f (g_ml M)) a0 24 0) a0 22 ((g_mi (g_wi (g_wm M f (g_ml M)) a0 24 0) a0 22) + 1)) a0 24 0) a0 3) a0 1) = 0 then (if (fX9_codeAt (g_wm M f (g_ml M)) a0 (g_mi (g_wm M f (g_ml M)) a0 22)) = x1 then (k 2 (g_mi (mX9_testOf N K (mX9_passes0 (g_wi (g_wi (g_wi (g_wm M f (g_ml M)) a0 24 0) a0 22 ((g_mi (g_wi (g_wm M f (g_ml M)) a0 24 0) a0 22) + 1)) a0 24 0) a0 3) a0 1)) a0 x1 y3 0 0 0) else (k 2 (g_mi (mX9_testOf N K (mX9_passes0 (g_wi (g_wi (g_wi (g_wm M f (g_ml M)) a0 24 0) a0 22 ((g_mi (g_wi (g_wm M f (g_ml M)) a0 24 0) a0 22) + 1)) a0 24 0) a0 3) a0 1)) a0 x1 y3 0 0 0)) else (k 1 (g_mi (mX9_testOf N K (mX9_passes0 (g_wi (g_wi (g_wi (g_wm M f (g_ml M)) a0 24 0) a0 22 ((g_mi (g_wi (g_wm M f (g_ml M)) a0 24 0) a0 22) + 1)) a0 24 0) a0 3) a0 1)) a0 x1 y3 (fX9_codeAt (g_wm M f (g_ml M)) a0 (g_mi (g_wm M f (g_ml M)) a0 22)) 1 (g_mi (g_wi (g_wi (g_wm M f (g_ml M)) a0 24 0) a0 22 ((g_mi (g_wi (g_wm M f (g_ml M)) a0 24 0) a0 22) + 1)) a0 24)))) else (if (fX9_passes0 (g_wi (mX9_sumOf N K (g_wi (g_wi (g_wm M f (g_ml M)) a0 24 0) a0 22 ((g_mi (g_wi (g_wm M f (g_ml M)) a0 24 0) a0 22) + 1)) a0 1) a0 24 0) a0 3) = 0 then (k 1 (g_mi (mX9_passes0 (g_wi (mX9_sumOf N K (g_wi (g_wi (g_wm M f (g_ml M)) a0 24 0) a0 22 ((g_mi (g_wi (g_wm M f (g_ml M)) a0 24 0) a0 22) + 1)) a0 1) a0 24 0) a0 3)) a0 x1 y3 (fX9_codeAt (g_wm M f (g_ml M)) a0 (g_mi (g_wm M f (g_ml M)) a0 22)) (fX9_sumOf N K (g_wi (g_wi (g_wm M f (g_ml M)) a0 24 0) a0 22 ((g_mi (g_wi (g_wm M f (g_ml M)) a0 24 0) a0 22) + 1)) a0 1) (g_mi (mX9_sumOf N K (g_wi (g_wi (g_wm M f (g_ml M)) a0 24 0) a0 22 ((g_mi (g_wi (g_wm M f (g_ml M)) a0 24 0) a0 22) + 1)) a0 1) a0 24)) else (if (fX9_testOf N K (mX9_passes0 (g_wi (mX9_sumOf N K (g_wi (g_wi (g_wm M f (g_ml M)) a0 24 0) a0 22 ((g_mi (g_wi (g_wm M f (g_ml M)) a0 24 0) a0 22) + 1)) a0 1) a0 24 0) a0 3) a0 1) = 0 then (if (fX9_codeAt (g_wm M f (g_ml M)) a0 (g_mi (g_wm M f (g_ml M)) a0 22)) = x1 then (k 2 (g_mi (mX9_testOf N K (mX9_passes0 (g_wi (mX9_sumOf N K (g_wi (g_wi (g_wm M f (g_ml M)) a0 24 0) a0 22 ((g_mi (g_wi (g_wm M f (g_ml M)) a0 24 0) a0 22) + 1)) a0 1) a0 24 0) a0 3) a0 1)) a0 x1 y3 0 0 0) else (k 2 (g_mi (mX9_testOf N K (mX9_passes0 (g_wi (mX9_sumOf N K (g_wi (g_wi (g_wm M f (g_ml M)) a0 24 0) a0 22 ((g_mi (g_wi (g_wm M f (g_ml M)) a0 24 0) a0 22) + 1)) a0 1) a0 24 0) a0 3) a0 1)) a0 x1 y3 0 0 0)) else (k 1 (g_mi (mX9_testOf N K (mX9_passes0 (g_wi (mX9_sumOf N K (g_wi (g_wi (g_wm M f (g_ml M)) a0 24 0) a0 22 ((g_mi (g_wi (g_wm M f (g_ml M)) a0 24 0) a0 22) + 1)) a0 1) a0 24 0) a0 3) a0 1)) a0 x1 y3 (fX9_codeAt (g_wm M f (g_ml M)) a0 (g_mi (g_wm M f (g_ml M)) a0 22)) (fX9_sumOf N K (g_wi (g_wi (g_wm M f (g_ml M)) a0 24 0) a0 22 ((g_mi (g_wi (g_wm M f (g_ml M)) a0 24 0) a0 22) + 1)) a0 1) (g_mi (mX9_sumOf N K (g_wi (g_wi (g_wm M f (g_ml M)) a0 24 0) a0 22 ((g_mi (g_wi (g_wm M f (g_ml M)) a0 24 0) a0 22) + 1)) a0 1) a0 24))))))
def bX9_tells_144 (N : Nat) (K : Nat) (M : gM) (f : Nat → Nat → Int32) (a0 : Nat) (x1 : Int32) (y3 : Int64) (x5 : Int32) (y6 : Int64) (x8 : Int32) (k : Nat → (Nat → Nat → Int32) → Nat → Int32 → Int64 → Int32 → Int64 → Int32 → Int32 × (Nat → Nat → Int32)) : Int32 × (Nat → Nat → Int32) := (if x5 = x1 then (if (g_mi (g_wm M f (g_ml M)) a0 24) = 0 then (if x8 = 0 then (if 0 ≤ (lg_cmp y6 0) then (if (lg_cmp y6 99) ≤ 0 then (k 2 (g_mi (g_wm M f (g_ml M))) a0 x1 y6 0 0 0) else (k 2 (g_mi (g_wm M f (g_ml M))) a0 x1 99 0 0 0)) else (k 2 (g_mi (g_wm M f (g_ml M))) a0 x1 0 0 0 0)) else (k 2 (g_mi (g_wm M f (g_ml M))) a0 x1 y3 0 0 0)) else (k 2 (g_mi (g_wm M f (g_ml M))) a0 x1 y3 0 0 0)) else (k 2 (g_mi (g_wm M f (g_ml M))) a0 x1 y3 0 0 0))
def eX9_tells_144 (N : Nat) (K : Nat) (M : gM) (f : Nat → Nat → Int32) (a0 : Nat) (x1 : Int32) (y3 : Int64) (x5 : Int32) (y6 : Int64) (x8 : Int32) (k : Nat → (Nat → Nat → Int32) → Nat → Int32 → Int64 → Int32 → Int64 → Int32 → Prop) : Prop := (if x5 = x1 then (if (g_mi (g_wm M f (g_ml M)) a0 24) = 0 then (if x8 = 0 then (if 0 ≤ (lg_cmp y6 0) then (if (lg_cmp y6 99) ≤ 0 then (k 2 (g_mi (g_wm M f (g_ml M))) a0 x1 y6 0 0 0) else (k 2 (g_mi (g_wm M f (g_ml M))) a0 x1 99 0 0 0)) else (k 2 (g_mi (g_wm M f (g_ml M))) a0 x1 0 0 0 0)) else (k 2 (g_mi (g_wm M f (g_ml M))) a0 x1 y3 0 0 0)) else (k 2 (g_mi (g_wm M f (g_ml M))) a0 x1 y3 0 0 0)) else (k 2 (g_mi (g_wm M f (g_ml M))) a0 x1 y3 0 0 0))
def bX9_tells_203 (N : Nat) (K : Nat) (M : gM) (f : Nat → Nat → Int32) (a0 : Nat) (x1 : Int32) (y3 : Int64) (k : Nat → (Nat → Nat → Int32) → Nat → Int32 → Int64 → Int32 → Int64 → Int32 → Int32 × (Nat → Nat → Int32)) : Int32 × (Nat → Nat → Int32) := (k 0 (g_mi (g_wi (g_wm M f (g_ml M)) a0 22 ((g_mi (g_wm M f (g_ml M)) a0 22) + 1))) a0 x1 y3 0 0 0)
def eX9_tells_203 (N : Nat) (K : Nat) (M : gM) (f : Nat → Nat → Int32) (a0 : Nat) (x1 : Int32) (y3 : Int64) (k : Nat → (Nat → Nat → Int32) → Nat → Int32 → Int64 → Int32 → Int64 → Int32 → Prop) : Prop := (k 0 (g_mi (g_wi (g_wm M f (g_ml M)) a0 22 ((g_mi (g_wm M f (g_ml M)) a0 22) + 1))) a0 x1 y3 0 0 0)
def wX9_tells (N : Nat) (K : Nat) (M : gM) : Nat → Nat → (Nat → Nat → Int32) → Nat → Int32 → Int64 → Int32 → Int64 → Int32 → Int32 × (Nat → Nat → Int32)
  | 0, _, f, _, _, _, _, _, _ => (0, f)
  | n + 1, h, f, a0, x1, y3, x5, y6, x8 => if h = 0 then bX9_tells_64 N K M f a0 x1 y3 (wX9_tells N K M n) else if h = 1 then bX9_tells_144 N K M f a0 x1 y3 x5 y6 x8 (wX9_tells N K M n) else bX9_tells_203 N K M f a0 x1 y3 (wX9_tells N K M n)
def vX9_tells (N : Nat) (K : Nat) (M : gM) : Nat → Nat → (Nat → Nat → Int32) → Nat → Int32 → Int64 → Int32 → Int64 → Int32 → Prop
  | 0, _, _, _, _, _, _, _, _ => False
  | n + 1, h, f, a0, x1, y3, x5, y6, x8 => if h = 0 then eX9_tells_64 N K M f a0 x1 y3 (vX9_tells N K M n) else if h = 1 then eX9_tells_144 N K M f a0 x1 y3 x5 y6 x8 (vX9_tells N K M n) else eX9_tells_203 N K M f a0 x1 y3 (vX9_tells N K M n)
set_option maxRecDepth 10000 in
theorem lpX9_tells {X : gX} {d mc ms : Nat} {Q : Option Value → gM → Prop} (N : Nat) (K : Nat) (M : gM) : ∀ n : Nat, (∀ (f : Nat → Nat → Int32) (a0 : Nat) (x1 : Int32) (y3 : Int64) (x5 : Int32) (y6 : Int64) (x8 : Int32), Mo M a0 → vX9_tells N K M n 0 f a0 x1 y3 x5 y6 x8 → Q (some (.int (wX9_tells N K M n 0 f a0 x1 y3 x5 y6 x8).1)) (g_wm M (wX9_tells N K M n 0 f a0 x1 y3 x5 y6 x8).2 (g_ml M)) → Go X (d + K + 7) mc ms kX9_tells Q 64 [(0, .ref a0), (1, .int (x1)), (3, .long (y3))] [] (g_wm M f (g_ml M)) 0 0) ∧ (∀ (f : Nat → Nat → Int32) (a0 : Nat) (x1 : Int32) (y3 : Int64) (x5 : Int32) (y6 : Int64) (x8 : Int32), Mo M a0 → vX9_tells N K M n 1 f a0 x1 y3 x5 y6 x8 → Q (some (.int (wX9_tells N K M n 1 f a0 x1 y3 x5 y6 x8).1)) (g_wm M (wX9_tells N K M n 1 f a0 x1 y3 x5 y6 x8).2 (g_ml M)) → Go X (d + K + 7) mc ms kX9_tells Q 144 [(0, .ref a0), (1, .int (x1)), (3, .long (y3)), (5, .int (x5)), (6, .long (y6)), (8, .int (x8))] [] (g_wm M f (g_ml M)) 0 0) ∧ (∀ (f : Nat → Nat → Int32) (a0 : Nat) (x1 : Int32) (y3 : Int64) (x5 : Int32) (y6 : Int64) (x8 : Int32), Mo M a0 → vX9_tells N K M n 2 f a0 x1 y3 x5 y6 x8 → Q (some (.int (wX9_tells N K M n 2 f a0 x1 y3 x5 y6 x8).1)) (g_wm M (wX9_tells N K M n 2 f a0 x1 y3 x5 y6 x8).2 (g_ml M)) → Go X (d + K + 7) mc ms kX9_tells Q 203 [(0, .ref a0), (1, .int (x1)), (3, .long (y3))] [] (g_wm M f (g_ml M)) 0 0) := by
  intro n
  induction n with
  | zero => exact ⟨fun _ _ _ _ _ _ _ _ h _ => h.elim, fun _ _ _ _ _ _ _ _ h _ => h.elim, fun _ _ _ _ _ _ _ _ h _ => h.elim⟩
  | succ n ih =>
    refine ⟨?_, ?_, ?_⟩
    · intro f a0 x1 y3 x5 y6 x8 s0 hT hQ
      rw [vX9_tells, if_pos (show (0 : Nat) = 0 from rfl)] at hT
      rw [wX9_tells, if_pos (show (0 : Nat) = 0 from rfl)] at hQ
      unfold bX9_tells_64 at hQ
      unfold eX9_tells_64 at hT
      obtain ⟨b4, b5, b6, b8, b12, b14, hT⟩ := hT
      exact sX9_tells_64 (M := (g_wm M f (g_ml M))) (Mo.sm Sm.wm s0) (fun c1 => by simp only [if_pos c1] at hQ; exact Sm.q Sm.wm hQ) (Nat.zero_le _) (Nat.zero_le _) b4 b5 b6 (fun c1 c2 c3 => by simp only [if_neg c1, if_neg c2, if_pos c3] at hQ hT; exact Sm.g (Sm.tr Sm.wm (Sm.tr (Sm.wi (Sm.tr (Sm.wi (Sm.wi Sm.rf)) jX9_sumOf)) jX9_passes0)) (ih.2.1 _ _ _ _ _ _ _ (s0) hT hQ)) b8 (fun c1 c2 c3 c4 c5 => by simp only [if_neg c1, if_neg c2, if_neg c3, if_pos c4, if_neg c5] at hQ hT; exact Sm.g (Sm.tr Sm.wm (Sm.tr (Sm.tr (Sm.wi (Sm.tr (Sm.wi (Sm.wi Sm.rf)) jX9_sumOf)) jX9_passes0) jX9_testOf)) (ih.2.2 _ _ _ _ _ _ _ (s0) hT hQ)) (fun c1 c2 c3 c4 c5 => by simp only [if_neg c1, if_neg c2, if_neg c3, if_pos c4, if_pos c5] at hQ hT; exact Sm.g (Sm.tr Sm.wm (Sm.tr (Sm.tr (Sm.wi (Sm.tr (Sm.wi (Sm.wi Sm.rf)) jX9_sumOf)) jX9_passes0) jX9_testOf)) (ih.2.2 _ _ _ _ _ _ _ (s0) hT hQ)) (fun c1 c2 c3 c4 => by simp only [if_neg c1, if_neg c2, if_neg c3, if_neg c4] at hQ hT; exact Sm.g (Sm.tr Sm.wm (Sm.tr (Sm.tr (Sm.wi (Sm.tr (Sm.wi (Sm.wi Sm.rf)) jX9_sumOf)) jX9_passes0) jX9_testOf)) (ih.2.1 _ _ _ _ _ _ _ (s0) hT hQ)) b12 (fun c1 c2 c6 => by simp only [if_neg c1, if_pos c2, if_pos c6] at hQ hT; exact Sm.g (Sm.tr Sm.wm (Sm.tr (Sm.wi (Sm.wi (Sm.wi Sm.rf))) jX9_passes0)) (ih.2.1 _ _ _ _ _ _ _ (s0) hT hQ)) b14 (fun c1 c2 c6 c7 c8 => by simp only [if_neg c1, if_pos c2, if_neg c6, if_pos c7, if_neg c8] at hQ hT; exact Sm.g (Sm.tr Sm.wm (Sm.tr (Sm.tr (Sm.wi (Sm.wi (Sm.wi Sm.rf))) jX9_passes0) jX9_testOf)) (ih.2.2 _ _ _ _ _ _ _ (s0) hT hQ)) (fun c1 c2 c6 c7 c8 => by simp only [if_neg c1, if_pos c2, if_neg c6, if_pos c7, if_pos c8] at hQ hT; exact Sm.g (Sm.tr Sm.wm (Sm.tr (Sm.tr (Sm.wi (Sm.wi (Sm.wi Sm.rf))) jX9_passes0) jX9_testOf)) (ih.2.2 _ _ _ _ _ _ _ (s0) hT hQ)) (fun c1 c2 c6 c7 => by simp only [if_neg c1, if_pos c2, if_neg c6, if_neg c7] at hQ hT; exact Sm.g (Sm.tr Sm.wm (Sm.tr (Sm.tr (Sm.wi (Sm.wi (Sm.wi Sm.rf))) jX9_passes0) jX9_testOf)) (ih.2.1 _ _ _ _ _ _ _ (s0) hT hQ))
    · intro f a0 x1 y3 x5 y6 x8 s0 hT hQ
      rw [vX9_tells, if_neg (show ¬ (1 : Nat) = 0 by decide), if_pos (show (1 : Nat) = 1 from rfl)] at hT
      rw [wX9_tells, if_neg (show ¬ (1 : Nat) = 0 by decide), if_pos (show (1 : Nat) = 1 from rfl)] at hQ
      unfold bX9_tells_144 at hQ
      unfold eX9_tells_144 at hT
      exact sX9_tells_144 (M := (g_wm M f (g_ml M))) (Mo.sm Sm.wm s0) (fun c1 => by simp only [if_neg c1] at hQ hT; exact Sm.g Sm.wm (ih.2.2 _ _ _ _ _ _ _ (s0) hT hQ)) (fun c1 c2 => by simp only [if_pos c1, if_neg c2] at hQ hT; exact Sm.g Sm.wm (ih.2.2 _ _ _ _ _ _ _ (s0) hT hQ)) (fun c1 c2 c3 => by simp only [if_pos c1, if_pos c2, if_neg c3] at hQ hT; exact Sm.g Sm.wm (ih.2.2 _ _ _ _ _ _ _ (s0) hT hQ)) (fun c1 c2 c3 c4 c5 => by simp only [if_pos c1, if_pos c2, if_pos c3, if_pos c4, if_pos c5] at hQ hT; exact Sm.g Sm.wm (ih.2.2 _ _ _ _ _ _ _ (s0) hT hQ)) (fun c1 c2 c3 c4 c5 => by simp only [if_pos c1, if_pos c2, if_pos c3, if_pos c4, if_neg c5] at hQ hT; exact Sm.g Sm.wm (ih.2.2 _ _ _ _ _ _ _ (s0) hT hQ)) (fun c1 c2 c3 c4 => by simp only [if_pos c1, if_pos c2, if_pos c3, if_neg c4] at hQ hT; exact Sm.g Sm.wm (ih.2.2 _ _ _ _ _ _ _ (s0) hT hQ))
    · intro f a0 x1 y3 x5 y6 x8 s0 hT hQ
      rw [vX9_tells, if_neg (show ¬ (2 : Nat) = 0 by decide), if_neg (show ¬ (2 : Nat) = 1 by decide)] at hT
      rw [wX9_tells, if_neg (show ¬ (2 : Nat) = 0 by decide), if_neg (show ¬ (2 : Nat) = 1 by decide)] at hQ
      unfold bX9_tells_203 at hQ
      unfold eX9_tells_203 at hT
      exact sX9_tells_203 (M := (g_wm M f (g_ml M))) (Mo.sm Sm.wm s0) (Sm.g (Sm.tr Sm.wm (Sm.wi Sm.rf)) (ih.1 _ _ _ _ _ _ _ (s0) hT hQ))
def fX9_tells (N : Nat) (K : Nat) (M : gM) (a0 : Nat) (x1 : Int32) (x2 : Int32) : Int32 := (bX9_tells_0 N K M a0 x1 x2 (wX9_tells N K M N)).1
def mX9_tells (N : Nat) (K : Nat) (M : gM) (a0 : Nat) (x1 : Int32) (x2 : Int32) : gM := g_wm M (bX9_tells_0 N K M a0 x1 x2 (wX9_tells N K M N)).2 (g_ml M)
theorem jX9_tells {N : Nat} {K : Nat} {M : gM} {a0 : Nat} {x1 : Int32} {x2 : Int32} : Sm M (mX9_tells N K M a0 x1 x2) := Sm.wm
def EX9_tells (N : Nat) (K : Nat) (M : gM) (a0 : Nat) (x1 : Int32) (x2 : Int32) : Prop := eX9_tells_0 N K M a0 x1 x2 (vX9_tells N K M N)
theorem tX9_tells {N : Nat} {K : Nat} {X : gX} {d mc ms : Nat} {Q : Option Value → gM → Prop} {M : gM} {a0 : Nat} {x1 : Int32} {x2 : Int32} (s0 : Mo M a0) (hE : EX9_tells N K M a0 x1 x2) (hQ : Q (some (.int (fX9_tells N K M a0 x1 x2))) (mX9_tells N K M a0 x1 x2)) : Cn X (d + K + 7) mc ms kX9_tells [.ref a0, .int (x1), .int (x2)] M Q := by
  unfold fX9_tells mX9_tells at hQ
  unfold bX9_tells_0 at hQ
  unfold EX9_tells eX9_tells_0 at hE
  obtain ⟨b1, hT⟩ := hE
  have ih := lpX9_tells (X := X) (d := d) (mc := mc) (ms := ms) (Q := Q) N K M N
  exact sX9_tells_0 s0 b1 (fun c1 => by simp only [if_neg c1] at hQ hT; exact Sm.g (Sm.wi (Sm.wi (Sm.wi Sm.rf))) (ih.1 _ _ _ _ _ _ _ (s0) hT hQ)) (fun c1 => by simp only [if_pos c1] at hQ; exact Sm.q Sm.rf hQ)
/-! X9_ranksOf  -/
set_option maxRecDepth 4000 in
theorem sX9_ranksOf_0 {N : Nat} {K : Nat} {X : gX} {d mc ms : Nat} {Q : Option Value → gM → Prop} {M : gM} {a0 : Nat} {x1 : Int32} {x2 : Int32} (s0 : Mo M a0) (b1 : ¬ ((g_mi M (a0 + 2) 31) : Int32) = 0) (b2 : EX9_degreeOf N M a0 x1 x2) (b3 : EX9_tells N K (mX9_setsAsked M a0 x1 (x1 / (g_mi M (a0 + 2) 31)) (-1) x2 (fX9_degreeOf N M a0 x1 x2)) a0 1 0) (h4 : Q (some (.int ((fX9_tells N K (mX9_setsAsked M a0 x1 (x1 / (g_mi M (a0 + 2) 31)) (-1) x2 (fX9_degreeOf N M a0 x1 x2)) a0 1 0)))) (mX9_tells N K (mX9_setsAsked M a0 x1 (x1 / (g_mi M (a0 + 2) 31)) (-1) x2 (fX9_degreeOf N M a0 x1 x2)) a0 1 0)) : Cn X (d + K + 8) mc ms kX9_ranksOf [.ref a0, .int (x1), .int (x2)] M Q := by
  refine g_meth rfl rfl (Nat.le_of_ble_eq_true rfl) rfl ?_
  refine g_aload_n 0 1 dX9_ranksOf_0 rfl rfl ?_
  refine g_iload_n 1 2 dX9_ranksOf_1 rfl rfl ?_
  refine g_iload_n 1 3 dX9_ranksOf_2 rfl rfl ?_
  refine g_aload_n 0 4 dX9_ranksOf_3 rfl rfl ?_
  refine g_getR 7 (a0 + 2) dX9_ranksOf_4 rfl flX9_28 s0.1 s0.2.2.2.1 ?_
  refine g_bipush (31) 9 dX9_ranksOf_7 rfl rfl ?_
  refine h_iaload 10 31 dX9_ranksOf_9 rfl rfl s0.2.2.2.2.1 (vp_lit rfl) ?_
  refine g_idiv 11 dX9_ranksOf_10 rfl (b1) ?_
  refine g_iconst ((-1)) 12 dX9_ranksOf_11 rfl rfl ?_
  refine g_iload_n 2 13 dX9_ranksOf_12 rfl rfl ?_
  refine g_aload_n 0 14 dX9_ranksOf_13 rfl rfl ?_
  refine g_iload_n 1 15 dX9_ranksOf_14 rfl rfl ?_
  refine g_iload_n 2 16 dX9_ranksOf_15 rfl rfl ?_
  refine g_callV (mc1 := 0) (ms1 := 0) (b := a0) (rest := [.int (x2), .int ((-1)), .int ((x1 / (g_mi M (a0 + 2) 31))), .int (x1), .ref a0]) (av := [.int (x1), .int (x2)]) kX9_degreeOf 19 dX9_ranksOf_16 rfl rfl mbX9_140 imX9_degreeOf seX9_degreeOf gcl9.1 s0.1 (Nat.le_of_ble_eq_true rfl) (Nat.zero_le _) (Nat.zero_le _) (tX9_degreeOf (N := N) s0 (b2) ?_)
  show Go X (d + K + 8) mc ms kX9_ranksOf Q 19 [(0, .ref a0), (1, .int (x1)), (2, .int (x2))] [.int ((fX9_degreeOf N M a0 x1 x2)), .int (x2), .int ((-1)), .int ((x1 / (g_mi M (a0 + 2) 31))), .int (x1), .ref a0] M 0 0
  refine g_callV (mc1 := 0) (ms1 := 0) (b := a0) (rest := []) (av := [.int (x1), .int ((x1 / (g_mi M (a0 + 2) 31))), .int ((-1)), .int (x2), .int ((fX9_degreeOf N M a0 x1 x2))]) kX9_setsAsked 22 dX9_ranksOf_19 rfl rfl mbX9_328 imX9_setsAsked seX9_setsAsked gcl9.1 s0.1 (Nat.le_of_ble_eq_true rfl) (Nat.zero_le _) (Nat.zero_le _) (tX9_setsAsked s0 ?_)
  show Go X (d + K + 8) mc ms kX9_ranksOf Q 22 [(0, .ref a0), (1, .int (x1)), (2, .int (x2))] [] (mX9_setsAsked M a0 x1 (x1 / (g_mi M (a0 + 2) 31)) (-1) x2 (fX9_degreeOf N M a0 x1 x2)) 0 0
  refine g_aload_n 0 23 dX9_ranksOf_22 rfl rfl ?_
  refine g_iconst (1) 24 dX9_ranksOf_23 rfl rfl ?_
  refine g_iconst (0) 25 dX9_ranksOf_24 rfl rfl ?_
  refine g_callV (mc1 := 0) (ms1 := 0) (b := a0) (rest := []) (av := [.int (1), .int (0)]) kX9_tells 28 dX9_ranksOf_25 rfl rfl mbX9_332 imX9_tells seX9_tells gcl9.1 (Sm.k (Sm.tr Sm.rf jX9_setsAsked) s0.1) (Nat.le_of_ble_eq_true rfl) (Nat.zero_le _) (Nat.zero_le _) (tX9_tells (N := N) (K := K) (Mo.sm (Sm.tr Sm.rf jX9_setsAsked) s0) (b3) ?_)
  show Go X (d + K + 8) mc ms kX9_ranksOf Q 28 [(0, .ref a0), (1, .int (x1)), (2, .int (x2))] [.int ((fX9_tells N K (mX9_setsAsked M a0 x1 (x1 / (g_mi M (a0 + 2) 31)) (-1) x2 (fX9_degreeOf N M a0 x1 x2)) a0 1 0))] (mX9_tells N K (mX9_setsAsked M a0 x1 (x1 / (g_mi M (a0 + 2) 31)) (-1) x2 (fX9_degreeOf N M a0 x1 x2)) a0 1 0) 0 0
  exact g_iret dX9_ranksOf_28 rfl (Nat.zero_le _) (Nat.zero_le _) (h4)

def fX9_ranksOf (N : Nat) (K : Nat) (M : gM) (a0 : Nat) (x1 : Int32) (x2 : Int32) : Int32 := (fX9_tells N K (mX9_setsAsked M a0 x1 (x1 / (g_mi M (a0 + 2) 31)) (-1) x2 (fX9_degreeOf N M a0 x1 x2)) a0 1 0)
def mX9_ranksOf (N : Nat) (K : Nat) (M : gM) (a0 : Nat) (x1 : Int32) (x2 : Int32) : gM := (mX9_tells N K (mX9_setsAsked M a0 x1 (x1 / (g_mi M (a0 + 2) 31)) (-1) x2 (fX9_degreeOf N M a0 x1 x2)) a0 1 0)
def EX9_ranksOf (N : Nat) (K : Nat) (M : gM) (a0 : Nat) (x1 : Int32) (x2 : Int32) : Prop := (¬ ((g_mi M (a0 + 2) 31) : Int32) = 0) ∧ (EX9_degreeOf N M a0 x1 x2) ∧ (EX9_tells N K (mX9_setsAsked M a0 x1 (x1 / (g_mi M (a0 + 2) 31)) (-1) x2 (fX9_degreeOf N M a0 x1 x2)) a0 1 0)
theorem jX9_ranksOf {N : Nat} {K : Nat} {M : gM} {a0 : Nat} {x1 : Int32} {x2 : Int32} : Sm M (mX9_ranksOf N K M a0 x1 x2) := (Sm.tr (Sm.tr Sm.rf jX9_setsAsked) jX9_tells)
theorem tX9_ranksOf {N : Nat} {K : Nat} {X : gX} {d mc ms : Nat} {Q : Option Value → gM → Prop} {M : gM} {a0 : Nat} {x1 : Int32} {x2 : Int32} (s0 : Mo M a0) (hE : EX9_ranksOf N K M a0 x1 x2) (hQ : Q (some (.int (fX9_ranksOf N K M a0 x1 x2))) (mX9_ranksOf N K M a0 x1 x2)) : Cn X (d + K + 8) mc ms kX9_ranksOf [.ref a0, .int (x1), .int (x2)] M Q := by
  unfold fX9_ranksOf mX9_ranksOf at hQ
  obtain ⟨b1, b2, b3⟩ := hE
  exact sX9_ranksOf_0 s0 b1 b2 b3 hQ
/-! X9_isBarred  -/
set_option maxRecDepth 4000 in
theorem sX9_isBarred_0 {N : Nat} {K : Nat} {X : gX} {d mc ms : Nat} {Q : Option Value → gM → Prop} {M : gM} {a0 : Nat} {x1 : Int32} (s0 : Mo M a0) (b1 : EX9_tells N K (mX9_setsAsked M a0 (-1) (-1) x1 (g_mi M (a0 + 2) 32) (-1)) a0 2 0) (h2 : (¬ (fX9_tells N K (mX9_setsAsked M a0 (-1) (-1) x1 (g_mi M (a0 + 2) 32) (-1)) a0 2 0) = 1) → Q (some (.int (0))) (mX9_tells N K (mX9_setsAsked M a0 (-1) (-1) x1 (g_mi M (a0 + 2) 32) (-1)) a0 2 0)) (h3 : ((fX9_tells N K (mX9_setsAsked M a0 (-1) (-1) x1 (g_mi M (a0 + 2) 32) (-1)) a0 2 0) = 1) → Q (some (.int (1))) (mX9_tells N K (mX9_setsAsked M a0 (-1) (-1) x1 (g_mi M (a0 + 2) 32) (-1)) a0 2 0)) : Cn X (d + K + 8) mc ms kX9_isBarred [.ref a0, .int (x1)] M Q := by
  refine g_meth rfl rfl (Nat.le_of_ble_eq_true rfl) rfl ?_
  refine g_aload_n 0 1 dX9_isBarred_0 rfl rfl ?_
  refine g_iconst ((-1)) 2 dX9_isBarred_1 rfl rfl ?_
  refine g_iconst ((-1)) 3 dX9_isBarred_2 rfl rfl ?_
  refine g_iload_n 1 4 dX9_isBarred_3 rfl rfl ?_
  refine g_aload_n 0 5 dX9_isBarred_4 rfl rfl ?_
  refine g_getR 8 (a0 + 2) dX9_isBarred_5 rfl flX9_28 s0.1 s0.2.2.2.1 ?_
  refine g_bipush (32) 10 dX9_isBarred_8 rfl rfl ?_
  refine h_iaload 11 32 dX9_isBarred_10 rfl rfl s0.2.2.2.2.1 (vp_lit rfl) ?_
  refine g_iconst ((-1)) 12 dX9_isBarred_11 rfl rfl ?_
  refine g_callV (mc1 := 0) (ms1 := 0) (b := a0) (rest := []) (av := [.int ((-1)), .int ((-1)), .int (x1), .int ((g_mi M (a0 + 2) 32)), .int ((-1))]) kX9_setsAsked 15 dX9_isBarred_12 rfl rfl mbX9_328 imX9_setsAsked seX9_setsAsked gcl9.1 s0.1 (Nat.le_of_ble_eq_true rfl) (Nat.zero_le _) (Nat.zero_le _) (tX9_setsAsked s0 ?_)
  show Go X (d + K + 8) mc ms kX9_isBarred Q 15 [(0, .ref a0), (1, .int (x1))] [] (mX9_setsAsked M a0 (-1) (-1) x1 (g_mi M (a0 + 2) 32) (-1)) 0 0
  refine g_aload_n 0 16 dX9_isBarred_15 rfl rfl ?_
  refine g_iconst (2) 17 dX9_isBarred_16 rfl rfl ?_
  refine g_iconst (0) 18 dX9_isBarred_17 rfl rfl ?_
  refine g_callV (mc1 := 0) (ms1 := 0) (b := a0) (rest := []) (av := [.int (2), .int (0)]) kX9_tells 21 dX9_isBarred_18 rfl rfl mbX9_332 imX9_tells seX9_tells gcl9.1 (Sm.k (Sm.tr Sm.rf jX9_setsAsked) s0.1) (Nat.le_of_ble_eq_true rfl) (Nat.zero_le _) (Nat.zero_le _) (tX9_tells (N := N) (K := K) (Mo.sm (Sm.tr Sm.rf jX9_setsAsked) s0) (b1) ?_)
  show Go X (d + K + 8) mc ms kX9_isBarred Q 21 [(0, .ref a0), (1, .int (x1))] [.int ((fX9_tells N K (mX9_setsAsked M a0 (-1) (-1) x1 (g_mi M (a0 + 2) 32) (-1)) a0 2 0))] (mX9_tells N K (mX9_setsAsked M a0 (-1) (-1) x1 (g_mi M (a0 + 2) 32) (-1)) a0 2 0) 0 0
  refine g_iconst (1) 22 dX9_isBarred_21 rfl rfl ?_
  refine g_icmp_ne 29 25 dX9_isBarred_22 rfl rfl (fun c1 => ?_) (fun c1 => ?_)
  · skip
    refine g_iconst (0) 30 dX9_isBarred_29 rfl rfl ?_
    exact g_zret dX9_isBarred_30 rfl (by decide) (Nat.zero_le _) (Nat.zero_le _) (h2 c1)
  · skip
    refine g_iconst (1) 26 dX9_isBarred_25 rfl rfl ?_
    refine g_goto 30 dX9_isBarred_26 rfl ?_
    exact g_zret dX9_isBarred_30 rfl (by decide) (Nat.zero_le _) (Nat.zero_le _) (h3 c1)

def fX9_isBarred (N : Nat) (K : Nat) (M : gM) (a0 : Nat) (x1 : Int32) : Int32 := (if (fX9_tells N K (mX9_setsAsked M a0 (-1) (-1) x1 (g_mi M (a0 + 2) 32) (-1)) a0 2 0) = 1 then 1 else 0)
def mX9_isBarred (N : Nat) (K : Nat) (M : gM) (a0 : Nat) (x1 : Int32) : gM := g_wm M (if (fX9_tells N K (mX9_setsAsked M a0 (-1) (-1) x1 (g_mi M (a0 + 2) 32) (-1)) a0 2 0) = 1 then (g_mi (mX9_tells N K (mX9_setsAsked M a0 (-1) (-1) x1 (g_mi M (a0 + 2) 32) (-1)) a0 2 0)) else (g_mi (mX9_tells N K (mX9_setsAsked M a0 (-1) (-1) x1 (g_mi M (a0 + 2) 32) (-1)) a0 2 0))) (g_ml M)
def EX9_isBarred (N : Nat) (K : Nat) (M : gM) (a0 : Nat) (x1 : Int32) : Prop := (EX9_tells N K (mX9_setsAsked M a0 (-1) (-1) x1 (g_mi M (a0 + 2) 32) (-1)) a0 2 0)
theorem jX9_isBarred {N : Nat} {K : Nat} {M : gM} {a0 : Nat} {x1 : Int32} : Sm M (mX9_isBarred N K M a0 x1) := Sm.wm
theorem tX9_isBarred {N : Nat} {K : Nat} {X : gX} {d mc ms : Nat} {Q : Option Value → gM → Prop} {M : gM} {a0 : Nat} {x1 : Int32} (s0 : Mo M a0) (hE : EX9_isBarred N K M a0 x1) (hQ : Q (some (.int (fX9_isBarred N K M a0 x1))) (mX9_isBarred N K M a0 x1)) : Cn X (d + K + 8) mc ms kX9_isBarred [.ref a0, .int (x1)] M Q := by
  unfold fX9_isBarred mX9_isBarred at hQ
  have b1 := hE
  exact sX9_isBarred_0 s0 b1 (fun c1 => by simp only [if_neg c1] at hQ; exact Sm.q (Sm.tr (Sm.tr Sm.rf jX9_setsAsked) jX9_tells) hQ) (fun c1 => by simp only [if_pos c1] at hQ; exact Sm.q (Sm.tr (Sm.tr Sm.rf jX9_setsAsked) jX9_tells) hQ)
/-! X9_laysRanks  -/
set_option maxRecDepth 4000 in
theorem sX9_laysRanks_0 {K : Nat} {X : gX} {d mc ms : Nat} {Q : Option Value → gM → Prop} {M : gM} {a0 : Nat} {x1 : Int32} (s0 : Mo M a0) (h1 : Go X (d + K + 9) mc ms kX9_laysRanks Q 2 [(0, .ref a0), (1, .int (x1)), (2, .int (0))] [] M 0 0) : Cn X (d + K + 9) mc ms kX9_laysRanks [.ref a0, .int (x1)] M Q := by
  refine g_meth rfl rfl (Nat.le_of_ble_eq_true rfl) rfl ?_
  refine g_iconst (0) 1 dX9_laysRanks_0 rfl rfl ?_
  refine g_istore_n 2 [(2, .int (0)), (0, .ref a0), (1, .int (x1))] dX9_laysRanks_1 rfl (Nat.le_of_ble_eq_true rfl) rfl ?_
  exact g_sub [1, 2, 0] _ rfl (h1)

set_option maxRecDepth 4000 in
theorem sX9_laysRanks_2 {N : Nat} {K : Nat} {X : gX} {d mc ms : Nat} {Q : Option Value → gM → Prop} {M : gM} {c z : Nat} {a0 : Nat} {x1 : Int32} {x2 : Int32} (s0 : Mo M a0) (w1 : c ≤ mc) (w2 : z ≤ ms) (h3 : ((fX9_vertexMany M a0) ≤ x2) → Q none M) (b4 : (¬ (fX9_vertexMany M a0) ≤ x2) → EX9_ranksOf N K M a0 x2 x1) (b5 : (¬ (fX9_vertexMany M a0) ≤ x2) → vp_in (x2) 60) (h6 : (¬ (fX9_vertexMany M a0) ≤ x2) → Go X (d + K + 9) mc ms kX9_laysRanks Q 2 [(0, .ref a0), (1, .int (x1)), (2, .int ((x2 + 1)))] [] (g_wi (mX9_ranksOf N K M a0 x2 x1) (a0 + 15) (x2).toNatClampNeg (fX9_ranksOf N K M a0 x2 x1)) c z) : Go X (d + K + 9) mc ms kX9_laysRanks Q 2 [(0, .ref a0), (1, .int (x1)), (2, .int (x2))] [] M c z := by
  refine g_iload_n 2 3 dX9_laysRanks_2 rfl rfl ?_
  refine g_aload_n 0 4 dX9_laysRanks_3 rfl rfl ?_
  refine g_callV (mc1 := 0) (ms1 := 0) (b := a0) (rest := [.int (x2)]) (av := []) kX9_vertexMany 7 dX9_laysRanks_4 rfl rfl mbX9_123 imX9_vertexMany seX9_vertexMany gcl9.1 s0.1 (Nat.le_of_ble_eq_true rfl) (w1) (w2) (tX9_vertexMany s0 ?_)
  show Go X (d + K + 9) mc ms kX9_laysRanks Q 7 [(0, .ref a0), (1, .int (x1)), (2, .int (x2))] [.int ((fX9_vertexMany M a0)), .int (x2)] M c z
  refine g_icmp_ge 28 10 dX9_laysRanks_7 rfl rfl (fun c1 => ?_) (fun c1 => ?_)
  · skip
    exact g_vret dX9_laysRanks_28 rfl (w1) (w2) (h3 c1)
  · skip
    refine g_aload_n 0 11 dX9_laysRanks_10 rfl rfl ?_
    refine g_getR 14 (a0 + 15) dX9_laysRanks_11 rfl flX9_72 s0.1 s0.2.2.2.2.2.2.2.2.2.2.2.2.2.2.2.2.2.2.2.2.2.2.2.2.2.2.2.2.2.1 ?_
    refine g_iload_n 2 15 dX9_laysRanks_14 rfl rfl ?_
    refine g_aload_n 0 16 dX9_laysRanks_15 rfl rfl ?_
    refine g_iload_n 2 17 dX9_laysRanks_16 rfl rfl ?_
    refine g_iload_n 1 18 dX9_laysRanks_17 rfl rfl ?_
    refine g_callV (mc1 := 0) (ms1 := 0) (b := a0) (rest := [.int (x2), .ref (a0 + 15)]) (av := [.int (x2), .int (x1)]) kX9_ranksOf 21 dX9_laysRanks_18 rfl rfl mbX9_144 imX9_ranksOf seX9_ranksOf gcl9.1 s0.1 (Nat.le_of_ble_eq_true rfl) (w1) (w2) (tX9_ranksOf (N := N) (K := K) s0 (b4 c1) ?_)
    show Go X (d + K + 9) mc ms kX9_laysRanks Q 21 [(0, .ref a0), (1, .int (x1)), (2, .int (x2))] [.int ((fX9_ranksOf N K M a0 x2 x1)), .int (x2), .ref (a0 + 15)] (mX9_ranksOf N K M a0 x2 x1) c z
    refine h_iastore 22 (x2).toNatClampNeg dX9_laysRanks_21 rfl rfl (Sm.k (Sm.tr Sm.rf jX9_ranksOf) s0.2.2.2.2.2.2.2.2.2.2.2.2.2.2.2.2.2.2.2.2.2.2.2.2.2.2.2.2.2.2.1) (b5 c1) ?_
    refine g_iinc _ 2 25 [(2, .int ((x2 + 1))), (0, .ref a0), (1, .int (x1))] dX9_laysRanks_22 rfl rfl rfl (Nat.le_of_ble_eq_true rfl) rfl ?_
    refine g_goto 2 dX9_laysRanks_25 rfl ?_
    exact g_sub [1, 2, 0] _ rfl (h6 c1)

def bX9_laysRanks_0 (N : Nat) (K : Nat) (M : gM) (a0 : Nat) (x1 : Int32) (k : Nat → (Nat → Nat → Int32) → Nat → Int32 → Int32 → Int32 × (Nat → Nat → Int32)) : Int32 × (Nat → Nat → Int32) := (k 0 (g_mi M) a0 x1 0)
def eX9_laysRanks_0 (N : Nat) (K : Nat) (M : gM) (a0 : Nat) (x1 : Int32) (k : Nat → (Nat → Nat → Int32) → Nat → Int32 → Int32 → Prop) : Prop := (k 0 (g_mi M) a0 x1 0)
def bX9_laysRanks_2 (N : Nat) (K : Nat) (M : gM) (f : Nat → Nat → Int32) (a0 : Nat) (x1 : Int32) (x2 : Int32) (k : Nat → (Nat → Nat → Int32) → Nat → Int32 → Int32 → Int32 × (Nat → Nat → Int32)) : Int32 × (Nat → Nat → Int32) := (if (fX9_vertexMany (g_wm M f (g_ml M)) a0) ≤ x2 then (0, g_mi (g_wm M f (g_ml M))) else (k 0 (g_mi (g_wi (mX9_ranksOf N K (g_wm M f (g_ml M)) a0 x2 x1) (a0 + 15) (x2).toNatClampNeg (fX9_ranksOf N K (g_wm M f (g_ml M)) a0 x2 x1))) a0 x1 (x2 + 1)))
def eX9_laysRanks_2 (N : Nat) (K : Nat) (M : gM) (f : Nat → Nat → Int32) (a0 : Nat) (x1 : Int32) (x2 : Int32) (k : Nat → (Nat → Nat → Int32) → Nat → Int32 → Int32 → Prop) : Prop := ((¬ (fX9_vertexMany (g_wm M f (g_ml M)) a0) ≤ x2) → EX9_ranksOf N K (g_wm M f (g_ml M)) a0 x2 x1) ∧ ((¬ (fX9_vertexMany (g_wm M f (g_ml M)) a0) ≤ x2) → vp_in (x2) 60) ∧ (if (fX9_vertexMany (g_wm M f (g_ml M)) a0) ≤ x2 then True else (k 0 (g_mi (g_wi (mX9_ranksOf N K (g_wm M f (g_ml M)) a0 x2 x1) (a0 + 15) (x2).toNatClampNeg (fX9_ranksOf N K (g_wm M f (g_ml M)) a0 x2 x1))) a0 x1 (x2 + 1)))
def wX9_laysRanks (N : Nat) (K : Nat) (M : gM) : Nat → Nat → (Nat → Nat → Int32) → Nat → Int32 → Int32 → Int32 × (Nat → Nat → Int32)
  | 0, _, f, _, _, _ => (0, f)
  | n + 1, h, f, a0, x1, x2 => bX9_laysRanks_2 N K M f a0 x1 x2 (wX9_laysRanks N K M n)
def vX9_laysRanks (N : Nat) (K : Nat) (M : gM) : Nat → Nat → (Nat → Nat → Int32) → Nat → Int32 → Int32 → Prop
  | 0, _, _, _, _, _ => False
  | n + 1, h, f, a0, x1, x2 => eX9_laysRanks_2 N K M f a0 x1 x2 (vX9_laysRanks N K M n)
set_option maxRecDepth 10000 in
theorem lpX9_laysRanks {X : gX} {d mc ms : Nat} {Q : Option Value → gM → Prop} (N : Nat) (K : Nat) (M : gM) : ∀ n : Nat, (∀ (f : Nat → Nat → Int32) (a0 : Nat) (x1 : Int32) (x2 : Int32), Mo M a0 → vX9_laysRanks N K M n 0 f a0 x1 x2 → Q none (g_wm M (wX9_laysRanks N K M n 0 f a0 x1 x2).2 (g_ml M)) → Go X (d + K + 9) mc ms kX9_laysRanks Q 2 [(0, .ref a0), (1, .int (x1)), (2, .int (x2))] [] (g_wm M f (g_ml M)) 0 0) := by
  intro n
  induction n with
  | zero => exact fun _ _ _ _ _ h _ => h.elim
  | succ n ih =>
    intro f a0 x1 x2 s0 hT hQ
    rw [vX9_laysRanks] at hT
    rw [wX9_laysRanks] at hQ
    unfold bX9_laysRanks_2 at hQ
    unfold eX9_laysRanks_2 at hT
    obtain ⟨b4, b5, hT⟩ := hT
    exact sX9_laysRanks_2 (M := (g_wm M f (g_ml M))) (Mo.sm Sm.wm s0) (Nat.zero_le _) (Nat.zero_le _) (fun c1 => by simp only [if_pos c1] at hQ; exact Sm.q Sm.wm hQ) b4 b5 (fun c1 => by simp only [if_neg c1] at hQ hT; exact Sm.g (Sm.tr Sm.wm (Sm.wi (Sm.tr Sm.rf jX9_ranksOf))) (ih _ _ _ _ (s0) hT hQ))
def mX9_laysRanks (N : Nat) (K : Nat) (M : gM) (a0 : Nat) (x1 : Int32) : gM := g_wm M (bX9_laysRanks_0 N K M a0 x1 (wX9_laysRanks N K M N)).2 (g_ml M)
theorem jX9_laysRanks {N : Nat} {K : Nat} {M : gM} {a0 : Nat} {x1 : Int32} : Sm M (mX9_laysRanks N K M a0 x1) := Sm.wm
def EX9_laysRanks (N : Nat) (K : Nat) (M : gM) (a0 : Nat) (x1 : Int32) : Prop := eX9_laysRanks_0 N K M a0 x1 (vX9_laysRanks N K M N)
theorem tX9_laysRanks {N : Nat} {K : Nat} {X : gX} {d mc ms : Nat} {Q : Option Value → gM → Prop} {M : gM} {a0 : Nat} {x1 : Int32} (s0 : Mo M a0) (hE : EX9_laysRanks N K M a0 x1) (hQ : Q none (mX9_laysRanks N K M a0 x1)) : Cn X (d + K + 9) mc ms kX9_laysRanks [.ref a0, .int (x1)] M Q := by
  unfold mX9_laysRanks at hQ
  unfold bX9_laysRanks_0 at hQ
  unfold EX9_laysRanks eX9_laysRanks_0 at hE
  have hT := hE
  have ih := lpX9_laysRanks (X := X) (d := d) (mc := mc) (ms := ms) (Q := Q) N K M N
  exact sX9_laysRanks_0 s0 (Sm.g Sm.rf (ih _ _ _ _ (s0) hT hQ))
/-! X9_adds  -/
set_option maxRecDepth 4000 in
theorem sX9_adds_0 {N : Nat} {K : Nat} {X : gX} {d mc ms : Nat} {Q : Option Value → gM → Prop} {M : gM} {a0 : Nat} {x1 : Int32} (s0 : Mo M a0) (b1 : EX9_isKey M x1) (b2 : (¬ (fX9_isKey x1) = 0) → EX9_isThere N M a0 x1) (h3 : (¬ (fX9_isKey x1) = 0) → (¬ (fX9_isThere N M a0 x1) = 0) → Q (some (.int ((-3)))) M) (b4 : (¬ (fX9_isKey x1) = 0) → ((fX9_isThere N M a0 x1) = 0) → EX9_isBarred N K M a0 x1) (b5 : (¬ (fX9_isKey x1) = 0) → ((fX9_isThere N M a0 x1) = 0) → ((fX9_isBarred N K M a0 x1) = 0) → (¬ (g_mi (mX9_isBarred N K M a0 x1) (a0 + 2) 0) = 30) → EX9_lowerMany N (mX9_isBarred N K M a0 x1) a0 x1) (h6 : (¬ (fX9_isKey x1) = 0) → ((fX9_isThere N M a0 x1) = 0) → ((fX9_isBarred N K M a0 x1) = 0) → (¬ (g_mi (mX9_isBarred N K M a0 x1) (a0 + 2) 0) = 30) → Go X (d + K + 9) mc ms kX9_adds Q 55 [(0, .ref a0), (1, .int (x1)), (2, .int ((fX9_lowerMany N (mX9_isBarred N K M a0 x1) a0 x1))), (3, .int ((g_mi (mX9_isBarred N K M a0 x1) (a0 + 2) 0)))] [] (mX9_isBarred N K M a0 x1) 0 0) (h7 : (¬ (fX9_isKey x1) = 0) → ((fX9_isThere N M a0 x1) = 0) → ((fX9_isBarred N K M a0 x1) = 0) → ((g_mi (mX9_isBarred N K M a0 x1) (a0 + 2) 0) = 30) → Q (some (.int ((-5)))) (mX9_isBarred N K M a0 x1)) (h8 : (¬ (fX9_isKey x1) = 0) → ((fX9_isThere N M a0 x1) = 0) → (¬ (fX9_isBarred N K M a0 x1) = 0) → Q (some (.int ((-3)))) (mX9_isBarred N K M a0 x1)) (h9 : ((fX9_isKey x1) = 0) → Q (some (.int ((-1)))) M) : Cn X (d + K + 9) mc ms kX9_adds [.ref a0, .int (x1)] M Q := by
  refine g_meth rfl rfl (Nat.le_of_ble_eq_true rfl) rfl ?_
  refine g_iload_n 1 1 dX9_adds_0 rfl rfl ?_
  refine g_callS (mc1 := 0) (ms1 := 0) (rest := []) (av := [.int (x1)]) kX9_isKey 4 dX9_adds_1 rfl rfl mbX9_127 smX9_isKey (Nat.le_of_ble_eq_true rfl) (Nat.zero_le _) (Nat.zero_le _) (tX9_isKey (b1) ?_)
  show Go X (d + K + 9) mc ms kX9_adds Q 4 [(0, .ref a0), (1, .int (x1))] [.int ((fX9_isKey x1))] M 0 0
  refine g_if_ne 9 7 dX9_adds_4 rfl rfl (fun c1 => ?_) (fun c1 => ?_)
  · skip
    refine g_aload_n 0 10 dX9_adds_9 rfl rfl ?_
    refine g_iload_n 1 11 dX9_adds_10 rfl rfl ?_
    refine g_callV (mc1 := 0) (ms1 := 0) (b := a0) (rest := []) (av := [.int (x1)]) kX9_isThere 14 dX9_adds_11 rfl rfl mbX9_131 imX9_isThere seX9_isThere gcl9.1 s0.1 (Nat.le_of_ble_eq_true rfl) (Nat.zero_le _) (Nat.zero_le _) (tX9_isThere (N := N) s0 (b2 c1) ?_)
    show Go X (d + K + 9) mc ms kX9_adds Q 14 [(0, .ref a0), (1, .int (x1))] [.int ((fX9_isThere N M a0 x1))] M 0 0
    refine g_if_ne 25 17 dX9_adds_14 rfl rfl (fun c2 => ?_) (fun c2 => ?_)
    · skip
      refine g_bipush ((-3)) 27 dX9_adds_25 rfl rfl ?_
      exact g_iret dX9_adds_27 rfl (Nat.zero_le _) (Nat.zero_le _) (h3 c1 c2)
    · skip
      refine g_aload_n 0 18 dX9_adds_17 rfl rfl ?_
      refine g_iload_n 1 19 dX9_adds_18 rfl rfl ?_
      refine g_callV (mc1 := 0) (ms1 := 0) (b := a0) (rest := []) (av := [.int (x1)]) kX9_isBarred 22 dX9_adds_19 rfl rfl mbX9_134 imX9_isBarred seX9_isBarred gcl9.1 s0.1 (Nat.le_of_ble_eq_true rfl) (Nat.zero_le _) (Nat.zero_le _) (tX9_isBarred (N := N) (K := K) s0 (b4 c1 c2) ?_)
      show Go X (d + K + 9) mc ms kX9_adds Q 22 [(0, .ref a0), (1, .int (x1))] [.int ((fX9_isBarred N K M a0 x1))] (mX9_isBarred N K M a0 x1) 0 0
      refine g_if_eq 28 25 dX9_adds_22 rfl rfl (fun c3 => ?_) (fun c3 => ?_)
      · skip
        refine g_aload_n 0 29 dX9_adds_28 rfl rfl ?_
        refine g_getR 32 (a0 + 2) dX9_adds_29 rfl flX9_28 (Sm.k (Sm.tr Sm.rf jX9_isBarred) s0.1) (Sm.r (Sm.tr Sm.rf jX9_isBarred) s0.2.2.2.1) ?_
        refine g_iconst (0) 33 dX9_adds_32 rfl rfl ?_
        refine h_iaload 34 0 dX9_adds_33 rfl rfl (Sm.k (Sm.tr Sm.rf jX9_isBarred) s0.2.2.2.2.1) (vp_lit rfl) ?_
        refine g_bipush (30) 36 dX9_adds_34 rfl rfl ?_
        refine g_icmp_ne 42 39 dX9_adds_36 rfl rfl (fun c4 => ?_) (fun c4 => ?_)
        · skip
          refine g_aload_n 0 43 dX9_adds_42 rfl rfl ?_
          refine g_iload_n 1 44 dX9_adds_43 rfl rfl ?_
          refine g_callV (mc1 := 0) (ms1 := 0) (b := a0) (rest := []) (av := [.int (x1)]) kX9_lowerMany 47 dX9_adds_44 rfl rfl mbX9_112 imX9_lowerMany seX9_lowerMany gcl9.1 (Sm.k (Sm.tr Sm.rf jX9_isBarred) s0.1) (Nat.le_of_ble_eq_true rfl) (Nat.zero_le _) (Nat.zero_le _) (tX9_lowerMany (N := N) (Mo.sm (Sm.tr Sm.rf jX9_isBarred) s0) (b5 c1 c2 c3 c4) ?_)
          show Go X (d + K + 9) mc ms kX9_adds Q 47 [(0, .ref a0), (1, .int (x1))] [.int ((fX9_lowerMany N (mX9_isBarred N K M a0 x1) a0 x1))] (mX9_isBarred N K M a0 x1) 0 0
          refine g_istore_n 48 [(2, .int ((fX9_lowerMany N (mX9_isBarred N K M a0 x1) a0 x1))), (0, .ref a0), (1, .int (x1))] dX9_adds_47 rfl (Nat.le_of_ble_eq_true rfl) rfl ?_
          refine g_aload_n 1 49 dX9_adds_48 rfl rfl ?_
          refine g_getR 52 (a0 + 2) dX9_adds_49 rfl flX9_28 (Sm.k (Sm.tr Sm.rf jX9_isBarred) s0.1) (Sm.r (Sm.tr Sm.rf jX9_isBarred) s0.2.2.2.1) ?_
          refine g_iconst (0) 53 dX9_adds_52 rfl rfl ?_
          refine h_iaload 54 0 dX9_adds_53 rfl rfl (Sm.k (Sm.tr Sm.rf jX9_isBarred) s0.2.2.2.2.1) (vp_lit rfl) ?_
          refine g_istore_n 55 [(3, .int ((g_mi (mX9_isBarred N K M a0 x1) (a0 + 2) 0))), (2, .int ((fX9_lowerMany N (mX9_isBarred N K M a0 x1) a0 x1))), (0, .ref a0), (1, .int (x1))] dX9_adds_54 rfl (Nat.le_of_ble_eq_true rfl) rfl ?_
          exact g_sub [2, 3, 1, 0] _ rfl (h6 c1 c2 c3 c4)
        · skip
          refine g_bipush ((-5)) 41 dX9_adds_39 rfl rfl ?_
          exact g_iret dX9_adds_41 rfl (Nat.zero_le _) (Nat.zero_le _) (h7 c1 c2 c3 c4)
      · skip
        refine g_bipush ((-3)) 27 dX9_adds_25 rfl rfl ?_
        exact g_iret dX9_adds_27 rfl (Nat.zero_le _) (Nat.zero_le _) (h8 c1 c2 c3)
  · skip
    refine g_iconst ((-1)) 8 dX9_adds_7 rfl rfl ?_
    exact g_iret dX9_adds_8 rfl (Nat.zero_le _) (Nat.zero_le _) (h9 c1)

set_option maxRecDepth 4000 in
theorem sX9_adds_55 {K : Nat} {X : gX} {d mc ms : Nat} {Q : Option Value → gM → Prop} {M : gM} {c z : Nat} {a0 : Nat} {x1 : Int32} {x2 : Int32} {x3 : Int32} (s0 : Mo M a0) (b1 : (x3 ≤ x2) → vp_in ((1 + x2)) 5812) (h2 : (x3 ≤ x2) → Q (some (.int ((g_mi (g_wi (g_wi M (a0 + 2) ((1 + x2)).toNatClampNeg x1) (a0 + 2) 0 ((g_mi (g_wi M (a0 + 2) ((1 + x2)).toNatClampNeg x1) (a0 + 2) 0) + 1)) (a0 + 2) 0)))) (g_wi (g_wi M (a0 + 2) ((1 + x2)).toNatClampNeg x1) (a0 + 2) 0 ((g_mi (g_wi M (a0 + 2) ((1 + x2)).toNatClampNeg x1) (a0 + 2) 0) + 1))) (w3 : c ≤ mc) (w4 : z ≤ ms) (b5 : (¬ x3 ≤ x2) → EX9_keyAt M a0 (x3 - 1)) (b6 : (¬ x3 ≤ x2) → vp_in ((1 + x3)) 5812) (h7 : (¬ x3 ≤ x2) → Go X (d + K + 9) mc ms kX9_adds Q 55 [(0, .ref a0), (1, .int (x1)), (2, .int (x2)), (3, .int ((x3 + (-1))))] [] (g_wi M (a0 + 2) ((1 + x3)).toNatClampNeg (fX9_keyAt M a0 (x3 - 1))) c z) : Go X (d + K + 9) mc ms kX9_adds Q 55 [(0, .ref a0), (1, .int (x1)), (2, .int (x2)), (3, .int (x3))] [] M c z := by
  refine g_iload_n 3 56 dX9_adds_55 rfl rfl ?_
  refine g_iload_n 2 57 dX9_adds_56 rfl rfl ?_
  refine g_icmp_le 81 60 dX9_adds_57 rfl rfl (fun c1 => ?_) (fun c1 => ?_)
  · skip
    refine g_aload_n 0 82 dX9_adds_81 rfl rfl ?_
    refine g_getR 85 (a0 + 2) dX9_adds_82 rfl flX9_28 s0.1 s0.2.2.2.1 ?_
    refine g_iconst (1) 86 dX9_adds_85 rfl rfl ?_
    refine g_iload_n 2 87 dX9_adds_86 rfl rfl ?_
    refine g_iadd 88 dX9_adds_87 rfl ?_
    refine g_iload_n 1 89 dX9_adds_88 rfl rfl ?_
    refine h_iastore 90 ((1 + x2)).toNatClampNeg dX9_adds_89 rfl rfl s0.2.2.2.2.1 (b1 c1) ?_
    refine g_aload_n 0 91 dX9_adds_90 rfl rfl ?_
    refine g_getR 94 (a0 + 2) dX9_adds_91 rfl flX9_28 (Sm.k (Sm.wi Sm.rf) s0.1) (Sm.r (Sm.wi Sm.rf) s0.2.2.2.1) ?_
    refine g_iconst (0) 95 dX9_adds_94 rfl rfl ?_
    refine g_dup2 96 dX9_adds_95 rfl rfl rfl ?_
    refine h_iaload 97 0 dX9_adds_96 rfl rfl (Sm.k (Sm.wi Sm.rf) s0.2.2.2.2.1) (vp_lit rfl) ?_
    refine g_iconst (1) 98 dX9_adds_97 rfl rfl ?_
    refine g_iadd 99 dX9_adds_98 rfl ?_
    refine h_iastore 100 0 dX9_adds_99 rfl rfl (Sm.k (Sm.wi Sm.rf) s0.2.2.2.2.1) (vp_lit rfl) ?_
    refine g_aload_n 0 101 dX9_adds_100 rfl rfl ?_
    refine g_getR 104 (a0 + 2) dX9_adds_101 rfl flX9_28 (Sm.k (Sm.wi (Sm.wi Sm.rf)) s0.1) (Sm.r (Sm.wi (Sm.wi Sm.rf)) s0.2.2.2.1) ?_
    refine g_iconst (0) 105 dX9_adds_104 rfl rfl ?_
    refine h_iaload 106 0 dX9_adds_105 rfl rfl (Sm.k (Sm.wi (Sm.wi Sm.rf)) s0.2.2.2.2.1) (vp_lit rfl) ?_
    exact g_iret dX9_adds_106 rfl (w3) (w4) (h2 c1)
  · skip
    refine g_aload_n 0 61 dX9_adds_60 rfl rfl ?_
    refine g_getR 64 (a0 + 2) dX9_adds_61 rfl flX9_28 s0.1 s0.2.2.2.1 ?_
    refine g_iconst (1) 65 dX9_adds_64 rfl rfl ?_
    refine g_iload_n 3 66 dX9_adds_65 rfl rfl ?_
    refine g_iadd 67 dX9_adds_66 rfl ?_
    refine g_aload_n 0 68 dX9_adds_67 rfl rfl ?_
    refine g_iload_n 3 69 dX9_adds_68 rfl rfl ?_
    refine g_iconst (1) 70 dX9_adds_69 rfl rfl ?_
    refine g_isub 71 dX9_adds_70 rfl ?_
    refine g_callV (mc1 := 0) (ms1 := 0) (b := a0) (rest := [.int ((1 + x3)), .ref (a0 + 2)]) (av := [.int ((x3 - 1))]) kX9_keyAt 74 dX9_adds_71 rfl rfl mbX9_109 imX9_keyAt seX9_keyAt gcl9.1 s0.1 (Nat.le_of_ble_eq_true rfl) (w3) (w4) (tX9_keyAt s0 (b5 c1) ?_)
    show Go X (d + K + 9) mc ms kX9_adds Q 74 [(0, .ref a0), (1, .int (x1)), (2, .int (x2)), (3, .int (x3))] [.int ((fX9_keyAt M a0 (x3 - 1))), .int ((1 + x3)), .ref (a0 + 2)] M c z
    refine h_iastore 75 ((1 + x3)).toNatClampNeg dX9_adds_74 rfl rfl s0.2.2.2.2.1 (b6 c1) ?_
    refine g_iinc _ 3 78 [(3, .int ((x3 + (-1)))), (0, .ref a0), (1, .int (x1)), (2, .int (x2))] dX9_adds_75 rfl rfl rfl (Nat.le_of_ble_eq_true rfl) rfl ?_
    refine g_goto 55 dX9_adds_78 rfl ?_
    exact g_sub [1, 2, 3, 0] _ rfl (h7 c1)

def bX9_adds_0 (N : Nat) (K : Nat) (M : gM) (a0 : Nat) (x1 : Int32) (k : Nat → (Nat → Nat → Int32) → Nat → Int32 → Int32 → Int32 → Int32 × (Nat → Nat → Int32)) : Int32 × (Nat → Nat → Int32) := (if (fX9_isKey x1) = 0 then ((-1), g_mi M) else (if (fX9_isThere N M a0 x1) = 0 then (if (fX9_isBarred N K M a0 x1) = 0 then (if (g_mi (mX9_isBarred N K M a0 x1) (a0 + 2) 0) = 30 then ((-5), g_mi (mX9_isBarred N K M a0 x1)) else (k 0 (g_mi (mX9_isBarred N K M a0 x1)) a0 x1 (fX9_lowerMany N (mX9_isBarred N K M a0 x1) a0 x1) (g_mi (mX9_isBarred N K M a0 x1) (a0 + 2) 0))) else ((-3), g_mi (mX9_isBarred N K M a0 x1))) else ((-3), g_mi M)))
def eX9_adds_0 (N : Nat) (K : Nat) (M : gM) (a0 : Nat) (x1 : Int32) (k : Nat → (Nat → Nat → Int32) → Nat → Int32 → Int32 → Int32 → Prop) : Prop := (EX9_isKey M x1) ∧ ((¬ (fX9_isKey x1) = 0) → EX9_isThere N M a0 x1) ∧ ((¬ (fX9_isKey x1) = 0) → ((fX9_isThere N M a0 x1) = 0) → EX9_isBarred N K M a0 x1) ∧ ((¬ (fX9_isKey x1) = 0) → ((fX9_isThere N M a0 x1) = 0) → ((fX9_isBarred N K M a0 x1) = 0) → (¬ (g_mi (mX9_isBarred N K M a0 x1) (a0 + 2) 0) = 30) → EX9_lowerMany N (mX9_isBarred N K M a0 x1) a0 x1) ∧ (if (fX9_isKey x1) = 0 then True else (if (fX9_isThere N M a0 x1) = 0 then (if (fX9_isBarred N K M a0 x1) = 0 then (if (g_mi (mX9_isBarred N K M a0 x1) (a0 + 2) 0) = 30 then True else (k 0 (g_mi (mX9_isBarred N K M a0 x1)) a0 x1 (fX9_lowerMany N (mX9_isBarred N K M a0 x1) a0 x1) (g_mi (mX9_isBarred N K M a0 x1) (a0 + 2) 0))) else True) else True))
def bX9_adds_55 (N : Nat) (K : Nat) (M : gM) (f : Nat → Nat → Int32) (a0 : Nat) (x1 : Int32) (x2 : Int32) (x3 : Int32) (k : Nat → (Nat → Nat → Int32) → Nat → Int32 → Int32 → Int32 → Int32 × (Nat → Nat → Int32)) : Int32 × (Nat → Nat → Int32) := (if x3 ≤ x2 then ((g_mi (g_wi (g_wi (g_wm M f (g_ml M)) (a0 + 2) ((1 + x2)).toNatClampNeg x1) (a0 + 2) 0 ((g_mi (g_wi (g_wm M f (g_ml M)) (a0 + 2) ((1 + x2)).toNatClampNeg x1) (a0 + 2) 0) + 1)) (a0 + 2) 0), g_mi (g_wi (g_wi (g_wm M f (g_ml M)) (a0 + 2) ((1 + x2)).toNatClampNeg x1) (a0 + 2) 0 ((g_mi (g_wi (g_wm M f (g_ml M)) (a0 + 2) ((1 + x2)).toNatClampNeg x1) (a0 + 2) 0) + 1))) else (k 0 (g_mi (g_wi (g_wm M f (g_ml M)) (a0 + 2) ((1 + x3)).toNatClampNeg (fX9_keyAt (g_wm M f (g_ml M)) a0 (x3 - 1)))) a0 x1 x2 (x3 + (-1))))
def eX9_adds_55 (N : Nat) (K : Nat) (M : gM) (f : Nat → Nat → Int32) (a0 : Nat) (x1 : Int32) (x2 : Int32) (x3 : Int32) (k : Nat → (Nat → Nat → Int32) → Nat → Int32 → Int32 → Int32 → Prop) : Prop := ((x3 ≤ x2) → vp_in ((1 + x2)) 5812) ∧ ((¬ x3 ≤ x2) → EX9_keyAt (g_wm M f (g_ml M)) a0 (x3 - 1)) ∧ ((¬ x3 ≤ x2) → vp_in ((1 + x3)) 5812) ∧ (if x3 ≤ x2 then True else (k 0 (g_mi (g_wi (g_wm M f (g_ml M)) (a0 + 2) ((1 + x3)).toNatClampNeg (fX9_keyAt (g_wm M f (g_ml M)) a0 (x3 - 1)))) a0 x1 x2 (x3 + (-1))))
def wX9_adds (N : Nat) (K : Nat) (M : gM) : Nat → Nat → (Nat → Nat → Int32) → Nat → Int32 → Int32 → Int32 → Int32 × (Nat → Nat → Int32)
  | 0, _, f, _, _, _, _ => (0, f)
  | n + 1, h, f, a0, x1, x2, x3 => bX9_adds_55 N K M f a0 x1 x2 x3 (wX9_adds N K M n)
def vX9_adds (N : Nat) (K : Nat) (M : gM) : Nat → Nat → (Nat → Nat → Int32) → Nat → Int32 → Int32 → Int32 → Prop
  | 0, _, _, _, _, _, _ => False
  | n + 1, h, f, a0, x1, x2, x3 => eX9_adds_55 N K M f a0 x1 x2 x3 (vX9_adds N K M n)
set_option maxRecDepth 10000 in
theorem lpX9_adds {X : gX} {d mc ms : Nat} {Q : Option Value → gM → Prop} (N : Nat) (K : Nat) (M : gM) : ∀ n : Nat, (∀ (f : Nat → Nat → Int32) (a0 : Nat) (x1 : Int32) (x2 : Int32) (x3 : Int32), Mo M a0 → vX9_adds N K M n 0 f a0 x1 x2 x3 → Q (some (.int (wX9_adds N K M n 0 f a0 x1 x2 x3).1)) (g_wm M (wX9_adds N K M n 0 f a0 x1 x2 x3).2 (g_ml M)) → Go X (d + K + 9) mc ms kX9_adds Q 55 [(0, .ref a0), (1, .int (x1)), (2, .int (x2)), (3, .int (x3))] [] (g_wm M f (g_ml M)) 0 0) := by
  intro n
  induction n with
  | zero => exact fun _ _ _ _ _ _ h _ => h.elim
  | succ n ih =>
    intro f a0 x1 x2 x3 s0 hT hQ
    rw [vX9_adds] at hT
    rw [wX9_adds] at hQ
    unfold bX9_adds_55 at hQ
    unfold eX9_adds_55 at hT
    obtain ⟨b1, b5, b6, hT⟩ := hT
    exact sX9_adds_55 (M := (g_wm M f (g_ml M))) (Mo.sm Sm.wm s0) b1 (fun c1 => by simp only [if_pos c1] at hQ; exact Sm.q (Sm.tr Sm.wm (Sm.wi (Sm.wi Sm.rf))) hQ) (Nat.zero_le _) (Nat.zero_le _) b5 b6 (fun c1 => by simp only [if_neg c1] at hQ hT; exact Sm.g (Sm.tr Sm.wm (Sm.wi Sm.rf)) (ih _ _ _ _ _ (s0) hT hQ))
def fX9_adds (N : Nat) (K : Nat) (M : gM) (a0 : Nat) (x1 : Int32) : Int32 := (bX9_adds_0 N K M a0 x1 (wX9_adds N K M N)).1
def mX9_adds (N : Nat) (K : Nat) (M : gM) (a0 : Nat) (x1 : Int32) : gM := g_wm M (bX9_adds_0 N K M a0 x1 (wX9_adds N K M N)).2 (g_ml M)
theorem jX9_adds {N : Nat} {K : Nat} {M : gM} {a0 : Nat} {x1 : Int32} : Sm M (mX9_adds N K M a0 x1) := Sm.wm
def EX9_adds (N : Nat) (K : Nat) (M : gM) (a0 : Nat) (x1 : Int32) : Prop := eX9_adds_0 N K M a0 x1 (vX9_adds N K M N)
theorem tX9_adds {N : Nat} {K : Nat} {X : gX} {d mc ms : Nat} {Q : Option Value → gM → Prop} {M : gM} {a0 : Nat} {x1 : Int32} (s0 : Mo M a0) (hE : EX9_adds N K M a0 x1) (hQ : Q (some (.int (fX9_adds N K M a0 x1))) (mX9_adds N K M a0 x1)) : Cn X (d + K + 9) mc ms kX9_adds [.ref a0, .int (x1)] M Q := by
  unfold fX9_adds mX9_adds at hQ
  unfold bX9_adds_0 at hQ
  unfold EX9_adds eX9_adds_0 at hE
  obtain ⟨b1, b2, b4, b5, hT⟩ := hE
  have ih := lpX9_adds (X := X) (d := d) (mc := mc) (ms := ms) (Q := Q) N K M N
  exact sX9_adds_0 s0 b1 b2 (fun c1 c2 => by simp only [if_neg c1, if_neg c2] at hQ; exact Sm.q Sm.rf hQ) b4 b5 (fun c1 c2 c3 c4 => by simp only [if_neg c1, if_pos c2, if_pos c3, if_neg c4] at hQ hT; exact Sm.g (Sm.tr Sm.rf jX9_isBarred) (ih _ _ _ _ _ (s0) hT hQ)) (fun c1 c2 c3 c4 => by simp only [if_neg c1, if_pos c2, if_pos c3, if_pos c4] at hQ; exact Sm.q (Sm.tr Sm.rf jX9_isBarred) hQ) (fun c1 c2 c3 => by simp only [if_neg c1, if_pos c2, if_neg c3] at hQ; exact Sm.q (Sm.tr Sm.rf jX9_isBarred) hQ) (fun c1 => by simp only [if_pos c1] at hQ; exact Sm.q Sm.rf hQ)
/-! X9_builds  -/
set_option maxRecDepth 4000 in
theorem sX9_builds_0 {K : Nat} {X : gX} {d mc ms : Nat} {Q : Option Value → gM → Prop} {M : gM} {a0 : Nat} (s0 : Mo M a0) (h1 : Go X (d + K + 10) mc ms kX9_builds Q 10 [(0, .ref a0), (1, .int (0)), (2, .int ((g_mi M (a0 + 2) 32)))] [] M 0 0) : Cn X (d + K + 10) mc ms kX9_builds [.ref a0] M Q := by
  refine g_meth rfl rfl (Nat.le_of_ble_eq_true rfl) rfl ?_
  refine g_iconst (0) 1 dX9_builds_0 rfl rfl ?_
  refine g_istore_n 2 [(1, .int (0)), (0, .ref a0)] dX9_builds_1 rfl (Nat.le_of_ble_eq_true rfl) rfl ?_
  refine g_aload_n 1 3 dX9_builds_2 rfl rfl ?_
  refine g_getR 6 (a0 + 2) dX9_builds_3 rfl flX9_28 s0.1 s0.2.2.2.1 ?_
  refine g_bipush (32) 8 dX9_builds_6 rfl rfl ?_
  refine h_iaload 9 32 dX9_builds_8 rfl rfl s0.2.2.2.2.1 (vp_lit rfl) ?_
  refine g_istore_n 10 [(2, .int ((g_mi M (a0 + 2) 32))), (1, .int (0)), (0, .ref a0)] dX9_builds_9 rfl (Nat.le_of_ble_eq_true rfl) rfl ?_
  exact g_sub [2, 1, 0] _ rfl (h1)

set_option maxRecDepth 4000 in
theorem sX9_builds_10 {N : Nat} {K : Nat} {X : gX} {d mc ms : Nat} {Q : Option Value → gM → Prop} {M : gM} {c z : Nat} {a0 : Nat} {x1 : Int32} {x2 : Int32} (s0 : Mo M a0) (w1 : c ≤ mc) (w2 : z ≤ ms) (b3 : (256 ≤ x1) → (¬ x1 = 256) → EX9_laysRanks N K (g_wi M (a0 + 2) 32 x2) a0 x2) (b4 : (256 ≤ x1) → (¬ x1 = 256) → EX9_peels N (mX9_laysRanks N K (g_wi M (a0 + 2) 32 x2) a0 x2) a0 x2) (b5 : (256 ≤ x1) → (¬ x1 = 256) → EX9_laysTable N (mX9_peels N (mX9_laysRanks N K (g_wi M (a0 + 2) 32 x2) a0 x2) a0 x2) a0) (h6 : (256 ≤ x1) → (¬ x1 = 256) → Q (some (.int (x1))) (g_wi (mX9_laysTable N (mX9_peels N (mX9_laysRanks N K (g_wi M (a0 + 2) 32 x2) a0 x2) a0 x2) a0) (a0 + 2) 187 (fX9_lesser 999 ((g_mi (mX9_laysTable N (mX9_peels N (mX9_laysRanks N K (g_wi M (a0 + 2) 32 x2) a0 x2) a0 x2) a0) (a0 + 2) 187) + 1)))) (h7 : (256 ≤ x1) → (x1 = 256) → Q (some (.int ((-3)))) M) (b8 : (¬ 256 ≤ x1) → EX9_coreOf N M a0 x2) (b9 : (¬ 256 ≤ x1) → ((fX9_coreOf N M a0 x2) ≤ 0) → (¬ x1 = 256) → EX9_laysRanks N K (g_wi (mX9_coreOf N M a0 x2) (a0 + 2) 32 x2) a0 x2) (b10 : (¬ 256 ≤ x1) → ((fX9_coreOf N M a0 x2) ≤ 0) → (¬ x1 = 256) → EX9_peels N (mX9_laysRanks N K (g_wi (mX9_coreOf N M a0 x2) (a0 + 2) 32 x2) a0 x2) a0 x2) (b11 : (¬ 256 ≤ x1) → ((fX9_coreOf N M a0 x2) ≤ 0) → (¬ x1 = 256) → EX9_laysTable N (mX9_peels N (mX9_laysRanks N K (g_wi (mX9_coreOf N M a0 x2) (a0 + 2) 32 x2) a0 x2) a0 x2) a0) (h12 : (¬ 256 ≤ x1) → ((fX9_coreOf N M a0 x2) ≤ 0) → (¬ x1 = 256) → Q (some (.int (x1))) (g_wi (mX9_laysTable N (mX9_peels N (mX9_laysRanks N K (g_wi (mX9_coreOf N M a0 x2) (a0 + 2) 32 x2) a0 x2) a0 x2) a0) (a0 + 2) 187 (fX9_lesser 999 ((g_mi (mX9_laysTable N (mX9_peels N (mX9_laysRanks N K (g_wi (mX9_coreOf N M a0 x2) (a0 + 2) 32 x2) a0 x2) a0 x2) a0) (a0 + 2) 187) + 1)))) (h13 : (¬ 256 ≤ x1) → ((fX9_coreOf N M a0 x2) ≤ 0) → (x1 = 256) → Q (some (.int ((-3)))) (mX9_coreOf N M a0 x2)) (h14 : (¬ 256 ≤ x1) → (¬ (fX9_coreOf N M a0 x2) ≤ 0) → Go X (d + K + 10) mc ms kX9_builds Q 10 [(0, .ref a0), (1, .int ((x1 + 1))), (2, .int ((i_rm (x2 + 1) 256)))] [] (mX9_coreOf N M a0 x2) c z) : Go X (d + K + 10) mc ms kX9_builds Q 10 [(0, .ref a0), (1, .int (x1)), (2, .int (x2))] [] M c z := by
  refine g_iload_n 1 11 dX9_builds_10 rfl rfl ?_
  refine g_sipush (256) 14 dX9_builds_11 rfl rfl ?_
  refine g_icmp_ge 39 17 dX9_builds_14 rfl rfl (fun c1 => ?_) (fun c1 => ?_)
  · skip
    refine g_iload_n 1 40 dX9_builds_39 rfl rfl ?_
    refine g_sipush (256) 43 dX9_builds_40 rfl rfl ?_
    refine g_icmp_ne 49 46 dX9_builds_43 rfl rfl (fun c2 => ?_) (fun c2 => ?_)
    · skip
      refine g_aload_n 0 50 dX9_builds_49 rfl rfl ?_
      refine g_getR 53 (a0 + 2) dX9_builds_50 rfl flX9_28 s0.1 s0.2.2.2.1 ?_
      refine g_bipush (32) 55 dX9_builds_53 rfl rfl ?_
      refine g_iload_n 2 56 dX9_builds_55 rfl rfl ?_
      refine h_iastore 57 32 dX9_builds_56 rfl rfl s0.2.2.2.2.1 (vp_lit rfl) ?_
      refine g_aload_n 0 58 dX9_builds_57 rfl rfl ?_
      refine g_iload_n 2 59 dX9_builds_58 rfl rfl ?_
      refine g_callV (mc1 := 0) (ms1 := 0) (b := a0) (rest := []) (av := [.int (x2)]) kX9_laysRanks 62 dX9_builds_59 rfl rfl mbX9_356 imX9_laysRanks seX9_laysRanks gcl9.1 (Sm.k (Sm.wi Sm.rf) s0.1) (Nat.le_of_ble_eq_true rfl) (w1) (w2) (tX9_laysRanks (N := N) (K := K) (Mo.sm (Sm.wi Sm.rf) s0) (b3 c1 c2) ?_)
      show Go X (d + K + 10) mc ms kX9_builds Q 62 [(0, .ref a0), (1, .int (x1)), (2, .int (x2))] [] (mX9_laysRanks N K (g_wi M (a0 + 2) 32 x2) a0 x2) c z
      refine g_aload_n 0 63 dX9_builds_62 rfl rfl ?_
      refine g_iload_n 2 64 dX9_builds_63 rfl rfl ?_
      refine g_callV (mc1 := 0) (ms1 := 0) (b := a0) (rest := []) (av := [.int (x2)]) kX9_peels 67 dX9_builds_64 rfl rfl mbX9_344 imX9_peels seX9_peels gcl9.1 (Sm.k (Sm.tr (Sm.wi Sm.rf) jX9_laysRanks) s0.1) (Nat.le_of_ble_eq_true rfl) (w1) (w2) (tX9_peels (N := N) (Mo.sm (Sm.tr (Sm.wi Sm.rf) jX9_laysRanks) s0) (b4 c1 c2) ?_)
      show Go X (d + K + 10) mc ms kX9_builds Q 67 [(0, .ref a0), (1, .int (x1)), (2, .int (x2))] [] (mX9_peels N (mX9_laysRanks N K (g_wi M (a0 + 2) 32 x2) a0 x2) a0 x2) c z
      refine g_aload_n 0 68 dX9_builds_67 rfl rfl ?_
      refine g_callV (mc1 := 0) (ms1 := 0) (b := a0) (rest := []) (av := []) kX9_laysTable 71 dX9_builds_68 rfl rfl mbX9_359 imX9_laysTable seX9_laysTable gcl9.1 (Sm.k (Sm.tr (Sm.tr (Sm.wi Sm.rf) jX9_laysRanks) jX9_peels) s0.1) (Nat.le_of_ble_eq_true rfl) (w1) (w2) (tX9_laysTable (N := N) (Mo.sm (Sm.tr (Sm.tr (Sm.wi Sm.rf) jX9_laysRanks) jX9_peels) s0) (b5 c1 c2) ?_)
      show Go X (d + K + 10) mc ms kX9_builds Q 71 [(0, .ref a0), (1, .int (x1)), (2, .int (x2))] [] (mX9_laysTable N (mX9_peels N (mX9_laysRanks N K (g_wi M (a0 + 2) 32 x2) a0 x2) a0 x2) a0) c z
      refine g_aload_n 0 72 dX9_builds_71 rfl rfl ?_
      refine g_getR 75 (a0 + 2) dX9_builds_72 rfl flX9_28 (Sm.k (Sm.tr (Sm.tr (Sm.tr (Sm.wi Sm.rf) jX9_laysRanks) jX9_peels) jX9_laysTable) s0.1) (Sm.r (Sm.tr (Sm.tr (Sm.tr (Sm.wi Sm.rf) jX9_laysRanks) jX9_peels) jX9_laysTable) s0.2.2.2.1) ?_
      refine g_sipush (187) 78 dX9_builds_75 rfl rfl ?_
      refine g_sipush (999) 81 dX9_builds_78 rfl rfl ?_
      refine g_aload_n 0 82 dX9_builds_81 rfl rfl ?_
      refine g_getR 85 (a0 + 2) dX9_builds_82 rfl flX9_28 (Sm.k (Sm.tr (Sm.tr (Sm.tr (Sm.wi Sm.rf) jX9_laysRanks) jX9_peels) jX9_laysTable) s0.1) (Sm.r (Sm.tr (Sm.tr (Sm.tr (Sm.wi Sm.rf) jX9_laysRanks) jX9_peels) jX9_laysTable) s0.2.2.2.1) ?_
      refine g_sipush (187) 88 dX9_builds_85 rfl rfl ?_
      refine h_iaload 89 187 dX9_builds_88 rfl rfl (Sm.k (Sm.tr (Sm.tr (Sm.tr (Sm.wi Sm.rf) jX9_laysRanks) jX9_peels) jX9_laysTable) s0.2.2.2.2.1) (vp_lit rfl) ?_
      refine g_iconst (1) 90 dX9_builds_89 rfl rfl ?_
      refine g_iadd 91 dX9_builds_90 rfl ?_
      refine g_callS (mc1 := 0) (ms1 := 0) (rest := [.int (187), .ref (a0 + 2)]) (av := [.int (999), .int (((g_mi (mX9_laysTable N (mX9_peels N (mX9_laysRanks N K (g_wi M (a0 + 2) 32 x2) a0 x2) a0 x2) a0) (a0 + 2) 187) + 1))]) kX9_lesser 94 dX9_builds_91 rfl rfl mbX9_362 smX9_lesser (Nat.le_of_ble_eq_true rfl) (w1) (w2) (tX9_lesser  ?_)
      show Go X (d + K + 10) mc ms kX9_builds Q 94 [(0, .ref a0), (1, .int (x1)), (2, .int (x2))] [.int ((fX9_lesser 999 ((g_mi (mX9_laysTable N (mX9_peels N (mX9_laysRanks N K (g_wi M (a0 + 2) 32 x2) a0 x2) a0 x2) a0) (a0 + 2) 187) + 1))), .int (187), .ref (a0 + 2)] (mX9_laysTable N (mX9_peels N (mX9_laysRanks N K (g_wi M (a0 + 2) 32 x2) a0 x2) a0 x2) a0) c z
      refine h_iastore 95 187 dX9_builds_94 rfl rfl (Sm.k (Sm.tr (Sm.tr (Sm.tr (Sm.wi Sm.rf) jX9_laysRanks) jX9_peels) jX9_laysTable) s0.2.2.2.2.1) (vp_lit rfl) ?_
      refine g_iload_n 1 96 dX9_builds_95 rfl rfl ?_
      exact g_iret dX9_builds_96 rfl (w1) (w2) (h6 c1 c2)
    · skip
      refine g_bipush ((-3)) 48 dX9_builds_46 rfl rfl ?_
      exact g_iret dX9_builds_48 rfl (w1) (w2) (h7 c1 c2)
  · skip
    refine g_aload_n 0 18 dX9_builds_17 rfl rfl ?_
    refine g_iload_n 2 19 dX9_builds_18 rfl rfl ?_
    refine g_callV (mc1 := 0) (ms1 := 0) (b := a0) (rest := []) (av := [.int (x2)]) kX9_coreOf 22 dX9_builds_19 rfl rfl mbX9_353 imX9_coreOf seX9_coreOf gcl9.1 s0.1 (Nat.le_of_ble_eq_true rfl) (w1) (w2) (tX9_coreOf (N := N) s0 (b8 c1) ?_)
    show Go X (d + K + 10) mc ms kX9_builds Q 22 [(0, .ref a0), (1, .int (x1)), (2, .int (x2))] [.int ((fX9_coreOf N M a0 x2))] (mX9_coreOf N M a0 x2) c z
    refine g_if_le 39 25 dX9_builds_22 rfl rfl (fun c3 => ?_) (fun c3 => ?_)
    · skip
      refine g_iload_n 1 40 dX9_builds_39 rfl rfl ?_
      refine g_sipush (256) 43 dX9_builds_40 rfl rfl ?_
      refine g_icmp_ne 49 46 dX9_builds_43 rfl rfl (fun c4 => ?_) (fun c4 => ?_)
      · skip
        refine g_aload_n 0 50 dX9_builds_49 rfl rfl ?_
        refine g_getR 53 (a0 + 2) dX9_builds_50 rfl flX9_28 (Sm.k (Sm.tr Sm.rf jX9_coreOf) s0.1) (Sm.r (Sm.tr Sm.rf jX9_coreOf) s0.2.2.2.1) ?_
        refine g_bipush (32) 55 dX9_builds_53 rfl rfl ?_
        refine g_iload_n 2 56 dX9_builds_55 rfl rfl ?_
        refine h_iastore 57 32 dX9_builds_56 rfl rfl (Sm.k (Sm.tr Sm.rf jX9_coreOf) s0.2.2.2.2.1) (vp_lit rfl) ?_
        refine g_aload_n 0 58 dX9_builds_57 rfl rfl ?_
        refine g_iload_n 2 59 dX9_builds_58 rfl rfl ?_
        refine g_callV (mc1 := 0) (ms1 := 0) (b := a0) (rest := []) (av := [.int (x2)]) kX9_laysRanks 62 dX9_builds_59 rfl rfl mbX9_356 imX9_laysRanks seX9_laysRanks gcl9.1 (Sm.k (Sm.wi (Sm.tr Sm.rf jX9_coreOf)) s0.1) (Nat.le_of_ble_eq_true rfl) (w1) (w2) (tX9_laysRanks (N := N) (K := K) (Mo.sm (Sm.wi (Sm.tr Sm.rf jX9_coreOf)) s0) (b9 c1 c3 c4) ?_)
        show Go X (d + K + 10) mc ms kX9_builds Q 62 [(0, .ref a0), (1, .int (x1)), (2, .int (x2))] [] (mX9_laysRanks N K (g_wi (mX9_coreOf N M a0 x2) (a0 + 2) 32 x2) a0 x2) c z
        refine g_aload_n 0 63 dX9_builds_62 rfl rfl ?_
        refine g_iload_n 2 64 dX9_builds_63 rfl rfl ?_
        refine g_callV (mc1 := 0) (ms1 := 0) (b := a0) (rest := []) (av := [.int (x2)]) kX9_peels 67 dX9_builds_64 rfl rfl mbX9_344 imX9_peels seX9_peels gcl9.1 (Sm.k (Sm.tr (Sm.wi (Sm.tr Sm.rf jX9_coreOf)) jX9_laysRanks) s0.1) (Nat.le_of_ble_eq_true rfl) (w1) (w2) (tX9_peels (N := N) (Mo.sm (Sm.tr (Sm.wi (Sm.tr Sm.rf jX9_coreOf)) jX9_laysRanks) s0) (b10 c1 c3 c4) ?_)
        show Go X (d + K + 10) mc ms kX9_builds Q 67 [(0, .ref a0), (1, .int (x1)), (2, .int (x2))] [] (mX9_peels N (mX9_laysRanks N K (g_wi (mX9_coreOf N M a0 x2) (a0 + 2) 32 x2) a0 x2) a0 x2) c z
        refine g_aload_n 0 68 dX9_builds_67 rfl rfl ?_
        refine g_callV (mc1 := 0) (ms1 := 0) (b := a0) (rest := []) (av := []) kX9_laysTable 71 dX9_builds_68 rfl rfl mbX9_359 imX9_laysTable seX9_laysTable gcl9.1 (Sm.k (Sm.tr (Sm.tr (Sm.wi (Sm.tr Sm.rf jX9_coreOf)) jX9_laysRanks) jX9_peels) s0.1) (Nat.le_of_ble_eq_true rfl) (w1) (w2) (tX9_laysTable (N := N) (Mo.sm (Sm.tr (Sm.tr (Sm.wi (Sm.tr Sm.rf jX9_coreOf)) jX9_laysRanks) jX9_peels) s0) (b11 c1 c3 c4) ?_)
        show Go X (d + K + 10) mc ms kX9_builds Q 71 [(0, .ref a0), (1, .int (x1)), (2, .int (x2))] [] (mX9_laysTable N (mX9_peels N (mX9_laysRanks N K (g_wi (mX9_coreOf N M a0 x2) (a0 + 2) 32 x2) a0 x2) a0 x2) a0) c z
        refine g_aload_n 0 72 dX9_builds_71 rfl rfl ?_
        refine g_getR 75 (a0 + 2) dX9_builds_72 rfl flX9_28 (Sm.k (Sm.tr (Sm.tr (Sm.tr (Sm.wi (Sm.tr Sm.rf jX9_coreOf)) jX9_laysRanks) jX9_peels) jX9_laysTable) s0.1) (Sm.r (Sm.tr (Sm.tr (Sm.tr (Sm.wi (Sm.tr Sm.rf jX9_coreOf)) jX9_laysRanks) jX9_peels) jX9_laysTable) s0.2.2.2.1) ?_
        refine g_sipush (187) 78 dX9_builds_75 rfl rfl ?_
        refine g_sipush (999) 81 dX9_builds_78 rfl rfl ?_
        refine g_aload_n 0 82 dX9_builds_81 rfl rfl ?_
        refine g_getR 85 (a0 + 2) dX9_builds_82 rfl flX9_28 (Sm.k (Sm.tr (Sm.tr (Sm.tr (Sm.wi (Sm.tr Sm.rf jX9_coreOf)) jX9_laysRanks) jX9_peels) jX9_laysTable) s0.1) (Sm.r (Sm.tr (Sm.tr (Sm.tr (Sm.wi (Sm.tr Sm.rf jX9_coreOf)) jX9_laysRanks) jX9_peels) jX9_laysTable) s0.2.2.2.1) ?_
        refine g_sipush (187) 88 dX9_builds_85 rfl rfl ?_
        refine h_iaload 89 187 dX9_builds_88 rfl rfl (Sm.k (Sm.tr (Sm.tr (Sm.tr (Sm.wi (Sm.tr Sm.rf jX9_coreOf)) jX9_laysRanks) jX9_peels) jX9_laysTable) s0.2.2.2.2.1) (vp_lit rfl) ?_
        refine g_iconst (1) 90 dX9_builds_89 rfl rfl ?_
        refine g_iadd 91 dX9_builds_90 rfl ?_
        refine g_callS (mc1 := 0) (ms1 := 0) (rest := [.int (187), .ref (a0 + 2)]) (av := [.int (999), .int (((g_mi (mX9_laysTable N (mX9_peels N (mX9_laysRanks N K (g_wi (mX9_coreOf N M a0 x2) (a0 + 2) 32 x2) a0 x2) a0 x2) a0) (a0 + 2) 187) + 1))]) kX9_lesser 94 dX9_builds_91 rfl rfl mbX9_362 smX9_lesser (Nat.le_of_ble_eq_true rfl) (w1) (w2) (tX9_lesser  ?_)
        show Go X (d + K + 10) mc ms kX9_builds Q 94 [(0, .ref a0), (1, .int (x1)), (2, .int (x2))] [.int ((fX9_lesser 999 ((g_mi (mX9_laysTable N (mX9_peels N (mX9_laysRanks N K (g_wi (mX9_coreOf N M a0 x2) (a0 + 2) 32 x2) a0 x2) a0 x2) a0) (a0 + 2) 187) + 1))), .int (187), .ref (a0 + 2)] (mX9_laysTable N (mX9_peels N (mX9_laysRanks N K (g_wi (mX9_coreOf N M a0 x2) (a0 + 2) 32 x2) a0 x2) a0 x2) a0) c z
        refine h_iastore 95 187 dX9_builds_94 rfl rfl (Sm.k (Sm.tr (Sm.tr (Sm.tr (Sm.wi (Sm.tr Sm.rf jX9_coreOf)) jX9_laysRanks) jX9_peels) jX9_laysTable) s0.2.2.2.2.1) (vp_lit rfl) ?_
        refine g_iload_n 1 96 dX9_builds_95 rfl rfl ?_
        exact g_iret dX9_builds_96 rfl (w1) (w2) (h12 c1 c3 c4)
      · skip
        refine g_bipush ((-3)) 48 dX9_builds_46 rfl rfl ?_
        exact g_iret dX9_builds_48 rfl (w1) (w2) (h13 c1 c3 c4)
    · skip
      refine g_iinc _ 1 28 [(1, .int ((x1 + 1))), (0, .ref a0), (2, .int (x2))] dX9_builds_25 rfl rfl rfl (Nat.le_of_ble_eq_true rfl) rfl ?_
      refine g_iload_n 2 29 dX9_builds_28 rfl rfl ?_
      refine g_iconst (1) 30 dX9_builds_29 rfl rfl ?_
      refine g_iadd 31 dX9_builds_30 rfl ?_
      refine g_sipush (256) 34 dX9_builds_31 rfl rfl ?_
      refine h_irem 35 dX9_builds_34 rfl (by decide) ?_
      refine g_istore_n 36 [(2, .int ((i_rm (x2 + 1) 256))), (1, .int ((x1 + 1))), (0, .ref a0)] dX9_builds_35 rfl (Nat.le_of_ble_eq_true rfl) rfl ?_
      refine g_goto 10 dX9_builds_36 rfl ?_
      exact g_sub [2, 1, 0] _ rfl (h14 c1 c3)

def bX9_builds_0 (N : Nat) (K : Nat) (M : gM) (a0 : Nat) (k : Nat → (Nat → Nat → Int32) → Nat → Int32 → Int32 → Int32 × (Nat → Nat → Int32)) : Int32 × (Nat → Nat → Int32) := (k 0 (g_mi M) a0 0 (g_mi M (a0 + 2) 32))
def eX9_builds_0 (N : Nat) (K : Nat) (M : gM) (a0 : Nat) (k : Nat → (Nat → Nat → Int32) → Nat → Int32 → Int32 → Prop) : Prop := (k 0 (g_mi M) a0 0 (g_mi M (a0 + 2) 32))
def bX9_builds_10 (N : Nat) (K : Nat) (M : gM) (f : Nat → Nat → Int32) (a0 : Nat) (x1 : Int32) (x2 : Int32) (k : Nat → (Nat → Nat → Int32) → Nat → Int32 → Int32 → Int32 × (Nat → Nat → Int32)) : Int32 × (Nat → Nat → Int32) := (if 256 ≤ x1 then (if x1 = 256 then ((-3), g_mi (g_wm M f (g_ml M))) else (x1, g_mi (g_wi (mX9_laysTable N (mX9_peels N (mX9_laysRanks N K (g_wi (g_wm M f (g_ml M)) (a0 + 2) 32 x2) a0 x2) a0 x2) a0) (a0 + 2) 187 (fX9_lesser 999 ((g_mi (mX9_laysTable N (mX9_peels N (mX9_laysRanks N K (g_wi (g_wm M f (g_ml M)) (a0 + 2) 32 x2) a0 x2) a0 x2) a0) (a0 + 2) 187) + 1))))) else (if (fX9_coreOf N (g_wm M f (g_ml M)) a0 x2) ≤ 0 then (if x1 = 256 then ((-3), g_mi (mX9_coreOf N (g_wm M f (g_ml M)) a0 x2)) else (x1, g_mi (g_wi (mX9_laysTable N (mX9_peels N (mX9_laysRanks N K (g_wi (mX9_coreOf N (g_wm M f (g_ml M)) a0 x2) (a0 + 2) 32 x2) a0 x2) a0 x2) a0) (a0 + 2) 187 (fX9_lesser 999 ((g_mi (mX9_laysTable N (mX9_peels N (mX9_laysRanks N K (g_wi (mX9_coreOf N (g_wm M f (g_ml M)) a0 x2) (a0 + 2) 32 x2) a0 x2) a0 x2) a0) (a0 + 2) 187) + 1))))) else (k 0 (g_mi (mX9_coreOf N (g_wm M f (g_ml M)) a0 x2)) a0 (x1 + 1) (i_rm (x2 + 1) 256))))
def eX9_builds_10 (N : Nat) (K : Nat) (M : gM) (f : Nat → Nat → Int32) (a0 : Nat) (x1 : Int32) (x2 : Int32) (k : Nat → (Nat → Nat → Int32) → Nat → Int32 → Int32 → Prop) : Prop := ((256 ≤ x1) → (¬ x1 = 256) → EX9_laysRanks N K (g_wi (g_wm M f (g_ml M)) (a0 + 2) 32 x2) a0 x2) ∧ ((256 ≤ x1) → (¬ x1 = 256) → EX9_peels N (mX9_laysRanks N K (g_wi (g_wm M f (g_ml M)) (a0 + 2) 32 x2) a0 x2) a0 x2) ∧ ((256 ≤ x1) → (¬ x1 = 256) → EX9_laysTable N (mX9_peels N (mX9_laysRanks N K (g_wi (g_wm M f (g_ml M)) (a0 + 2) 32 x2) a0 x2) a0 x2) a0) ∧ ((¬ 256 ≤ x1) → EX9_coreOf N (g_wm M f (g_ml M)) a0 x2) ∧ ((¬ 256 ≤ x1) → ((fX9_coreOf N (g_wm M f (g_ml M)) a0 x2) ≤ 0) → (¬ x1 = 256) → EX9_laysRanks N K (g_wi (mX9_coreOf N (g_wm M f (g_ml M)) a0 x2) (a0 + 2) 32 x2) a0 x2) ∧ ((¬ 256 ≤ x1) → ((fX9_coreOf N (g_wm M f (g_ml M)) a0 x2) ≤ 0) → (¬ x1 = 256) → EX9_peels N (mX9_laysRanks N K (g_wi (mX9_coreOf N (g_wm M f (g_ml M)) a0 x2) (a0 + 2) 32 x2) a0 x2) a0 x2) ∧ ((¬ 256 ≤ x1) → ((fX9_coreOf N (g_wm M f (g_ml M)) a0 x2) ≤ 0) → (¬ x1 = 256) → EX9_laysTable N (mX9_peels N (mX9_laysRanks N K (g_wi (mX9_coreOf N (g_wm M f (g_ml M)) a0 x2) (a0 + 2) 32 x2) a0 x2) a0 x2) a0) ∧ (if 256 ≤ x1 then (if x1 = 256 then True else True) else (if (fX9_coreOf N (g_wm M f (g_ml M)) a0 x2) ≤ 0 then (if x1 = 256 then True else True) else (k 0 (g_mi (mX9_coreOf N (g_wm M f (g_ml M)) a0 x2)) a0 (x1 + 1) (i_rm (x2 + 1) 256))))
def wX9_builds (N : Nat) (K : Nat) (M : gM) : Nat → Nat → (Nat → Nat → Int32) → Nat → Int32 → Int32 → Int32 × (Nat → Nat → Int32)
  | 0, _, f, _, _, _ => (0, f)
  | n + 1, h, f, a0, x1, x2 => bX9_builds_10 N K M f a0 x1 x2 (wX9_builds N K M n)
def vX9_builds (N : Nat) (K : Nat) (M : gM) : Nat → Nat → (Nat → Nat → Int32) → Nat → Int32 → Int32 → Prop
  | 0, _, _, _, _, _ => False
  | n + 1, h, f, a0, x1, x2 => eX9_builds_10 N K M f a0 x1 x2 (vX9_builds N K M n)
set_option maxRecDepth 10000 in
theorem lpX9_builds {X : gX} {d mc ms : Nat} {Q : Option Value → gM → Prop} (N : Nat) (K : Nat) (M : gM) : ∀ n : Nat, (∀ (f : Nat → Nat → Int32) (a0 : Nat) (x1 : Int32) (x2 : Int32), Mo M a0 → vX9_builds N K M n 0 f a0 x1 x2 → Q (some (.int (wX9_builds N K M n 0 f a0 x1 x2).1)) (g_wm M (wX9_builds N K M n 0 f a0 x1 x2).2 (g_ml M)) → Go X (d + K + 10) mc ms kX9_builds Q 10 [(0, .ref a0), (1, .int (x1)), (2, .int (x2))] [] (g_wm M f (g_ml M)) 0 0) := by
  intro n
  induction n with
  | zero => exact fun _ _ _ _ _ h _ => h.elim
  | succ n ih =>
    intro f a0 x1 x2 s0 hT hQ
    rw [vX9_builds] at hT
    rw [wX9_builds] at hQ
    unfold bX9_builds_10 at hQ
    unfold eX9_builds_10 at hT
    obtain ⟨b3, b4, b5, b8, b9, b10, b11, hT⟩ := hT
    exact sX9_builds_10 (M := (g_wm M f (g_ml M))) (Mo.sm Sm.wm s0) (Nat.zero_le _) (Nat.zero_le _) b3 b4 b5 (fun c1 c2 => by simp only [if_pos c1, if_neg c2] at hQ; exact Sm.q (Sm.tr Sm.wm (Sm.wi (Sm.tr (Sm.tr (Sm.tr (Sm.wi Sm.rf) jX9_laysRanks) jX9_peels) jX9_laysTable))) hQ) (fun c1 c2 => by simp only [if_pos c1, if_pos c2] at hQ; exact Sm.q Sm.wm hQ) b8 b9 b10 b11 (fun c1 c3 c4 => by simp only [if_neg c1, if_pos c3, if_neg c4] at hQ; exact Sm.q (Sm.tr Sm.wm (Sm.wi (Sm.tr (Sm.tr (Sm.tr (Sm.wi (Sm.tr Sm.rf jX9_coreOf)) jX9_laysRanks) jX9_peels) jX9_laysTable))) hQ) (fun c1 c3 c4 => by simp only [if_neg c1, if_pos c3, if_pos c4] at hQ; exact Sm.q (Sm.tr Sm.wm (Sm.tr Sm.rf jX9_coreOf)) hQ) (fun c1 c3 => by simp only [if_neg c1, if_neg c3] at hQ hT; exact Sm.g (Sm.tr Sm.wm (Sm.tr Sm.rf jX9_coreOf)) (ih _ _ _ _ (s0) hT hQ))
def fX9_builds (N : Nat) (K : Nat) (M : gM) (a0 : Nat) : Int32 := (bX9_builds_0 N K M a0 (wX9_builds N K M N)).1
def mX9_builds (N : Nat) (K : Nat) (M : gM) (a0 : Nat) : gM := g_wm M (bX9_builds_0 N K M a0 (wX9_builds N K M N)).2 (g_ml M)
theorem jX9_builds {N : Nat} {K : Nat} {M : gM} {a0 : Nat} : Sm M (mX9_builds N K M a0) := Sm.wm
def EX9_builds (N : Nat) (K : Nat) (M : gM) (a0 : Nat) : Prop := eX9_builds_0 N K M a0 (vX9_builds N K M N)
theorem tX9_builds {N : Nat} {K : Nat} {X : gX} {d mc ms : Nat} {Q : Option Value → gM → Prop} {M : gM} {a0 : Nat} (s0 : Mo M a0) (hE : EX9_builds N K M a0) (hQ : Q (some (.int (fX9_builds N K M a0))) (mX9_builds N K M a0)) : Cn X (d + K + 10) mc ms kX9_builds [.ref a0] M Q := by
  unfold fX9_builds mX9_builds at hQ
  unfold bX9_builds_0 at hQ
  unfold EX9_builds eX9_builds_0 at hE
  have hT := hE
  have ih := lpX9_builds (X := X) (d := d) (mc := mc) (ms := ms) (Q := Q) N K M N
  exact sX9_builds_0 s0 (Sm.g Sm.rf (ih _ _ _ _ (s0) hT hQ))
/-! X9_addsKept  -/
set_option maxRecDepth 4000 in
theorem sX9_addsKept_0 {N : Nat} {K : Nat} {X : gX} {d mc ms : Nat} {Q : Option Value → gM → Prop} {M : gM} {a0 : Nat} {x1 : Int32} (s0 : Mo M a0) (b1 : EX9_laysAside N M a0 2) (b2 : EX9_adds N K (mX9_laysAside N M a0 2) a0 x1) (b3 : EX9_keptOr N (mX9_adds N K (mX9_laysAside N M a0 2) a0 x1) a0 0 (fX9_adds N K (mX9_laysAside N M a0 2) a0 x1)) (h4 : Q (some (.int ((fX9_keptOr N (mX9_adds N K (mX9_laysAside N M a0 2) a0 x1) a0 0 (fX9_adds N K (mX9_laysAside N M a0 2) a0 x1))))) (mX9_keptOr N (mX9_adds N K (mX9_laysAside N M a0 2) a0 x1) a0 0 (fX9_adds N K (mX9_laysAside N M a0 2) a0 x1))) : Cn X (d + K + 10) mc ms kX9_addsKept [.ref a0, .int (x1)] M Q := by
  refine g_meth rfl rfl (Nat.le_of_ble_eq_true rfl) rfl ?_
  refine g_aload_n 0 1 dX9_addsKept_0 rfl rfl ?_
  refine g_iconst (2) 2 dX9_addsKept_1 rfl rfl ?_
  refine g_callV (mc1 := 0) (ms1 := 0) (b := a0) (rest := []) (av := [.int (2)]) kX9_laysAside 5 dX9_addsKept_2 rfl rfl mbX9_365 imX9_laysAside seX9_laysAside gcl9.1 s0.1 (Nat.le_of_ble_eq_true rfl) (Nat.zero_le _) (Nat.zero_le _) (tX9_laysAside (N := N) s0 (b1) ?_)
  show Go X (d + K + 10) mc ms kX9_addsKept Q 5 [(0, .ref a0), (1, .int (x1))] [] (mX9_laysAside N M a0 2) 0 0
  refine g_aload_n 0 6 dX9_addsKept_5 rfl rfl ?_
  refine g_iconst (0) 7 dX9_addsKept_6 rfl rfl ?_
  refine g_aload_n 0 8 dX9_addsKept_7 rfl rfl ?_
  refine g_iload_n 1 9 dX9_addsKept_8 rfl rfl ?_
  refine g_callV (mc1 := 0) (ms1 := 0) (b := a0) (rest := [.int (0), .ref a0]) (av := [.int (x1)]) kX9_adds 12 dX9_addsKept_9 rfl rfl mbX9_163 imX9_adds seX9_adds gcl9.1 (Sm.k (Sm.tr Sm.rf jX9_laysAside) s0.1) (Nat.le_of_ble_eq_true rfl) (Nat.zero_le _) (Nat.zero_le _) (tX9_adds (N := N) (K := K) (Mo.sm (Sm.tr Sm.rf jX9_laysAside) s0) (b2) ?_)
  show Go X (d + K + 10) mc ms kX9_addsKept Q 12 [(0, .ref a0), (1, .int (x1))] [.int ((fX9_adds N K (mX9_laysAside N M a0 2) a0 x1)), .int (0), .ref a0] (mX9_adds N K (mX9_laysAside N M a0 2) a0 x1) 0 0
  refine g_callV (mc1 := 0) (ms1 := 0) (b := a0) (rest := []) (av := [.int (0), .int ((fX9_adds N K (mX9_laysAside N M a0 2) a0 x1))]) kX9_keptOr 15 dX9_addsKept_12 rfl rfl mbX9_368 imX9_keptOr seX9_keptOr gcl9.1 (Sm.k (Sm.tr (Sm.tr Sm.rf jX9_laysAside) jX9_adds) s0.1) (Nat.le_of_ble_eq_true rfl) (Nat.zero_le _) (Nat.zero_le _) (tX9_keptOr (N := N) (Mo.sm (Sm.tr (Sm.tr Sm.rf jX9_laysAside) jX9_adds) s0) (b3) ?_)
  show Go X (d + K + 10) mc ms kX9_addsKept Q 15 [(0, .ref a0), (1, .int (x1))] [.int ((fX9_keptOr N (mX9_adds N K (mX9_laysAside N M a0 2) a0 x1) a0 0 (fX9_adds N K (mX9_laysAside N M a0 2) a0 x1)))] (mX9_keptOr N (mX9_adds N K (mX9_laysAside N M a0 2) a0 x1) a0 0 (fX9_adds N K (mX9_laysAside N M a0 2) a0 x1)) 0 0
  exact g_iret dX9_addsKept_15 rfl (Nat.zero_le _) (Nat.zero_le _) (h4)

def fX9_addsKept (N : Nat) (K : Nat) (M : gM) (a0 : Nat) (x1 : Int32) : Int32 := (fX9_keptOr N (mX9_adds N K (mX9_laysAside N M a0 2) a0 x1) a0 0 (fX9_adds N K (mX9_laysAside N M a0 2) a0 x1))
def mX9_addsKept (N : Nat) (K : Nat) (M : gM) (a0 : Nat) (x1 : Int32) : gM := (mX9_keptOr N (mX9_adds N K (mX9_laysAside N M a0 2) a0 x1) a0 0 (fX9_adds N K (mX9_laysAside N M a0 2) a0 x1))
def EX9_addsKept (N : Nat) (K : Nat) (M : gM) (a0 : Nat) (x1 : Int32) : Prop := (EX9_laysAside N M a0 2) ∧ (EX9_adds N K (mX9_laysAside N M a0 2) a0 x1) ∧ (EX9_keptOr N (mX9_adds N K (mX9_laysAside N M a0 2) a0 x1) a0 0 (fX9_adds N K (mX9_laysAside N M a0 2) a0 x1))
theorem jX9_addsKept {N : Nat} {K : Nat} {M : gM} {a0 : Nat} {x1 : Int32} : Sm M (mX9_addsKept N K M a0 x1) := (Sm.tr (Sm.tr (Sm.tr Sm.rf jX9_laysAside) jX9_adds) jX9_keptOr)
theorem tX9_addsKept {N : Nat} {K : Nat} {X : gX} {d mc ms : Nat} {Q : Option Value → gM → Prop} {M : gM} {a0 : Nat} {x1 : Int32} (s0 : Mo M a0) (hE : EX9_addsKept N K M a0 x1) (hQ : Q (some (.int (fX9_addsKept N K M a0 x1))) (mX9_addsKept N K M a0 x1)) : Cn X (d + K + 10) mc ms kX9_addsKept [.ref a0, .int (x1)] M Q := by
  unfold fX9_addsKept mX9_addsKept at hQ
  obtain ⟨b1, b2, b3⟩ := hE
  exact sX9_addsKept_0 s0 b1 b2 b3 hQ
/-! X9_buildsKept  -/
set_option maxRecDepth 4000 in
theorem sX9_buildsKept_0 {N : Nat} {K : Nat} {X : gX} {d mc ms : Nat} {Q : Option Value → gM → Prop} {M : gM} {a0 : Nat} (s0 : Mo M a0) (b1 : EX9_laysAside N M a0 2) (b2 : EX9_builds N K (mX9_laysAside N M a0 2) a0) (b3 : EX9_keptOr N (mX9_builds N K (mX9_laysAside N M a0 2) a0) a0 4 (fX9_builds N K (mX9_laysAside N M a0 2) a0)) (h4 : Q (some (.int ((fX9_keptOr N (mX9_builds N K (mX9_laysAside N M a0 2) a0) a0 4 (fX9_builds N K (mX9_laysAside N M a0 2) a0))))) (mX9_keptOr N (mX9_builds N K (mX9_laysAside N M a0 2) a0) a0 4 (fX9_builds N K (mX9_laysAside N M a0 2) a0))) : Cn X (d + K + 11) mc ms kX9_buildsKept [.ref a0] M Q := by
  refine g_meth rfl rfl (Nat.le_of_ble_eq_true rfl) rfl ?_
  refine g_aload_n 0 1 dX9_buildsKept_0 rfl rfl ?_
  refine g_iconst (2) 2 dX9_buildsKept_1 rfl rfl ?_
  refine g_callV (mc1 := 0) (ms1 := 0) (b := a0) (rest := []) (av := [.int (2)]) kX9_laysAside 5 dX9_buildsKept_2 rfl rfl mbX9_365 imX9_laysAside seX9_laysAside gcl9.1 s0.1 (Nat.le_of_ble_eq_true rfl) (Nat.zero_le _) (Nat.zero_le _) (tX9_laysAside (N := N) s0 (b1) ?_)
  show Go X (d + K + 11) mc ms kX9_buildsKept Q 5 [(0, .ref a0)] [] (mX9_laysAside N M a0 2) 0 0
  refine g_aload_n 0 6 dX9_buildsKept_5 rfl rfl ?_
  refine g_iconst (4) 7 dX9_buildsKept_6 rfl rfl ?_
  refine g_aload_n 0 8 dX9_buildsKept_7 rfl rfl ?_
  refine g_callV (mc1 := 0) (ms1 := 0) (b := a0) (rest := [.int (4), .ref a0]) (av := []) kX9_builds 11 dX9_buildsKept_8 rfl rfl mbX9_380 imX9_builds seX9_builds gcl9.1 (Sm.k (Sm.tr Sm.rf jX9_laysAside) s0.1) (Nat.le_of_ble_eq_true rfl) (Nat.zero_le _) (Nat.zero_le _) (tX9_builds (N := N) (K := K) (Mo.sm (Sm.tr Sm.rf jX9_laysAside) s0) (b2) ?_)
  show Go X (d + K + 11) mc ms kX9_buildsKept Q 11 [(0, .ref a0)] [.int ((fX9_builds N K (mX9_laysAside N M a0 2) a0)), .int (4), .ref a0] (mX9_builds N K (mX9_laysAside N M a0 2) a0) 0 0
  refine g_callV (mc1 := 0) (ms1 := 0) (b := a0) (rest := []) (av := [.int (4), .int ((fX9_builds N K (mX9_laysAside N M a0 2) a0))]) kX9_keptOr 14 dX9_buildsKept_11 rfl rfl mbX9_368 imX9_keptOr seX9_keptOr gcl9.1 (Sm.k (Sm.tr (Sm.tr Sm.rf jX9_laysAside) jX9_builds) s0.1) (Nat.le_of_ble_eq_true rfl) (Nat.zero_le _) (Nat.zero_le _) (tX9_keptOr (N := N) (Mo.sm (Sm.tr (Sm.tr Sm.rf jX9_laysAside) jX9_builds) s0) (b3) ?_)
  show Go X (d + K + 11) mc ms kX9_buildsKept Q 14 [(0, .ref a0)] [.int ((fX9_keptOr N (mX9_builds N K (mX9_laysAside N M a0 2) a0) a0 4 (fX9_builds N K (mX9_laysAside N M a0 2) a0)))] (mX9_keptOr N (mX9_builds N K (mX9_laysAside N M a0 2) a0) a0 4 (fX9_builds N K (mX9_laysAside N M a0 2) a0)) 0 0
  exact g_iret dX9_buildsKept_14 rfl (Nat.zero_le _) (Nat.zero_le _) (h4)

def fX9_buildsKept (N : Nat) (K : Nat) (M : gM) (a0 : Nat) : Int32 := (fX9_keptOr N (mX9_builds N K (mX9_laysAside N M a0 2) a0) a0 4 (fX9_builds N K (mX9_laysAside N M a0 2) a0))
def mX9_buildsKept (N : Nat) (K : Nat) (M : gM) (a0 : Nat) : gM := (mX9_keptOr N (mX9_builds N K (mX9_laysAside N M a0 2) a0) a0 4 (fX9_builds N K (mX9_laysAside N M a0 2) a0))
def EX9_buildsKept (N : Nat) (K : Nat) (M : gM) (a0 : Nat) : Prop := (EX9_laysAside N M a0 2) ∧ (EX9_builds N K (mX9_laysAside N M a0 2) a0) ∧ (EX9_keptOr N (mX9_builds N K (mX9_laysAside N M a0 2) a0) a0 4 (fX9_builds N K (mX9_laysAside N M a0 2) a0))
theorem jX9_buildsKept {N : Nat} {K : Nat} {M : gM} {a0 : Nat} : Sm M (mX9_buildsKept N K M a0) := (Sm.tr (Sm.tr (Sm.tr Sm.rf jX9_laysAside) jX9_builds) jX9_keptOr)
theorem tX9_buildsKept {N : Nat} {K : Nat} {X : gX} {d mc ms : Nat} {Q : Option Value → gM → Prop} {M : gM} {a0 : Nat} (s0 : Mo M a0) (hE : EX9_buildsKept N K M a0) (hQ : Q (some (.int (fX9_buildsKept N K M a0))) (mX9_buildsKept N K M a0)) : Cn X (d + K + 11) mc ms kX9_buildsKept [.ref a0] M Q := by
  unfold fX9_buildsKept mX9_buildsKept at hQ
  obtain ⟨b1, b2, b3⟩ := hE
  exact sX9_buildsKept_0 s0 b1 b2 b3 hQ
/-! X9_add  -/
set_option maxRecDepth 4000 in
theorem sX9_add_0 {N : Nat} {K : Nat} {X : gX} {d mc ms : Nat} {Q : Option Value → gM → Prop} {M : gM} {a0 : Nat} {x1 : Int32} (s0 : Mo M a0) (b1 : EX9_addsKept N K M a0 x1) (b2 : EX9_goodOr (mX9_addsKept N K M a0 x1) a0 (fX9_addsKept N K M a0 x1)) (h3 : Q (some (.int ((fX9_goodOr a0 (fX9_addsKept N K M a0 x1))))) (mX9_goodOr (mX9_addsKept N K M a0 x1) a0 (fX9_addsKept N K M a0 x1))) : Cn X (d + K + 11) mc ms kX9_add [.ref a0, .int (x1)] M Q := by
  refine g_meth rfl rfl (Nat.le_of_ble_eq_true rfl) rfl ?_
  refine g_aload_n 0 1 dX9_add_0 rfl rfl ?_
  refine g_aload_n 0 2 dX9_add_1 rfl rfl ?_
  refine g_iload_n 1 3 dX9_add_2 rfl rfl ?_
  refine g_callV (mc1 := 0) (ms1 := 0) (b := a0) (rest := [.ref a0]) (av := [.int (x1)]) kX9_addsKept 6 dX9_add_3 rfl rfl mbX9_383 imX9_addsKept seX9_addsKept gcl9.1 s0.1 (Nat.le_of_ble_eq_true rfl) (Nat.zero_le _) (Nat.zero_le _) (tX9_addsKept (N := N) (K := K) s0 (b1) ?_)
  show Go X (d + K + 11) mc ms kX9_add Q 6 [(0, .ref a0), (1, .int (x1))] [.int ((fX9_addsKept N K M a0 x1)), .ref a0] (mX9_addsKept N K M a0 x1) 0 0
  refine g_callV (mc1 := 0) (ms1 := 0) (b := a0) (rest := []) (av := [.int ((fX9_addsKept N K M a0 x1))]) kX9_goodOr 9 dX9_add_6 rfl rfl mbX9_386 imX9_goodOr seX9_goodOr gcl9.1 (Sm.k (Sm.tr Sm.rf jX9_addsKept) s0.1) (Nat.le_of_ble_eq_true rfl) (Nat.zero_le _) (Nat.zero_le _) (tX9_goodOr (Mo.sm (Sm.tr Sm.rf jX9_addsKept) s0) (b2) ?_)
  show Go X (d + K + 11) mc ms kX9_add Q 9 [(0, .ref a0), (1, .int (x1))] [.int ((fX9_goodOr a0 (fX9_addsKept N K M a0 x1)))] (mX9_goodOr (mX9_addsKept N K M a0 x1) a0 (fX9_addsKept N K M a0 x1)) 0 0
  exact g_iret dX9_add_9 rfl (Nat.zero_le _) (Nat.zero_le _) (h3)

def fX9_add (N : Nat) (K : Nat) (M : gM) (a0 : Nat) (x1 : Int32) : Int32 := (fX9_goodOr a0 (fX9_addsKept N K M a0 x1))
def mX9_add (N : Nat) (K : Nat) (M : gM) (a0 : Nat) (x1 : Int32) : gM := (mX9_goodOr (mX9_addsKept N K M a0 x1) a0 (fX9_addsKept N K M a0 x1))
def EX9_add (N : Nat) (K : Nat) (M : gM) (a0 : Nat) (x1 : Int32) : Prop := (EX9_addsKept N K M a0 x1) ∧ (EX9_goodOr (mX9_addsKept N K M a0 x1) a0 (fX9_addsKept N K M a0 x1))
theorem jX9_add {N : Nat} {K : Nat} {M : gM} {a0 : Nat} {x1 : Int32} : Sm M (mX9_add N K M a0 x1) := (Sm.tr (Sm.tr Sm.rf jX9_addsKept) jX9_goodOr)
theorem tX9_add {N : Nat} {K : Nat} {X : gX} {d mc ms : Nat} {Q : Option Value → gM → Prop} {M : gM} {a0 : Nat} {x1 : Int32} (s0 : Mo M a0) (hE : EX9_add N K M a0 x1) (hQ : Q (some (.int (fX9_add N K M a0 x1))) (mX9_add N K M a0 x1)) : Cn X (d + K + 11) mc ms kX9_add [.ref a0, .int (x1)] M Q := by
  unfold fX9_add mX9_add at hQ
  obtain ⟨b1, b2⟩ := hE
  exact sX9_add_0 s0 b1 b2 hQ
/-! X9_build  -/
set_option maxRecDepth 4000 in
theorem sX9_build_0 {N : Nat} {K : Nat} {X : gX} {d mc ms : Nat} {Q : Option Value → gM → Prop} {M : gM} {a0 : Nat} (s0 : Mo M a0) (b1 : EX9_buildsKept N K M a0) (b2 : EX9_goodOr (mX9_buildsKept N K M a0) a0 (fX9_buildsKept N K M a0)) (h3 : Q (some (.int ((fX9_goodOr a0 (fX9_buildsKept N K M a0))))) (mX9_goodOr (mX9_buildsKept N K M a0) a0 (fX9_buildsKept N K M a0))) : Cn X (d + K + 12) mc ms kX9_build [.ref a0] M Q := by
  refine g_meth rfl rfl (Nat.le_of_ble_eq_true rfl) rfl ?_
  refine g_aload_n 0 1 dX9_build_0 rfl rfl ?_
  refine g_aload_n 0 2 dX9_build_1 rfl rfl ?_
  refine g_callV (mc1 := 0) (ms1 := 0) (b := a0) (rest := [.ref a0]) (av := []) kX9_buildsKept 5 dX9_build_2 rfl rfl mbX9_398 imX9_buildsKept seX9_buildsKept gcl9.1 s0.1 (Nat.le_of_ble_eq_true rfl) (Nat.zero_le _) (Nat.zero_le _) (tX9_buildsKept (N := N) (K := K) s0 (b1) ?_)
  show Go X (d + K + 12) mc ms kX9_build Q 5 [(0, .ref a0)] [.int ((fX9_buildsKept N K M a0)), .ref a0] (mX9_buildsKept N K M a0) 0 0
  refine g_callV (mc1 := 0) (ms1 := 0) (b := a0) (rest := []) (av := [.int ((fX9_buildsKept N K M a0))]) kX9_goodOr 8 dX9_build_5 rfl rfl mbX9_386 imX9_goodOr seX9_goodOr gcl9.1 (Sm.k (Sm.tr Sm.rf jX9_buildsKept) s0.1) (Nat.le_of_ble_eq_true rfl) (Nat.zero_le _) (Nat.zero_le _) (tX9_goodOr (Mo.sm (Sm.tr Sm.rf jX9_buildsKept) s0) (b2) ?_)
  show Go X (d + K + 12) mc ms kX9_build Q 8 [(0, .ref a0)] [.int ((fX9_goodOr a0 (fX9_buildsKept N K M a0)))] (mX9_goodOr (mX9_buildsKept N K M a0) a0 (fX9_buildsKept N K M a0)) 0 0
  exact g_iret dX9_build_8 rfl (Nat.zero_le _) (Nat.zero_le _) (h3)

def fX9_build (N : Nat) (K : Nat) (M : gM) (a0 : Nat) : Int32 := (fX9_goodOr a0 (fX9_buildsKept N K M a0))
def mX9_build (N : Nat) (K : Nat) (M : gM) (a0 : Nat) : gM := (mX9_goodOr (mX9_buildsKept N K M a0) a0 (fX9_buildsKept N K M a0))
def EX9_build (N : Nat) (K : Nat) (M : gM) (a0 : Nat) : Prop := (EX9_buildsKept N K M a0) ∧ (EX9_goodOr (mX9_buildsKept N K M a0) a0 (fX9_buildsKept N K M a0))
theorem jX9_build {N : Nat} {K : Nat} {M : gM} {a0 : Nat} : Sm M (mX9_build N K M a0) := (Sm.tr (Sm.tr Sm.rf jX9_buildsKept) jX9_goodOr)
theorem tX9_build {N : Nat} {K : Nat} {X : gX} {d mc ms : Nat} {Q : Option Value → gM → Prop} {M : gM} {a0 : Nat} (s0 : Mo M a0) (hE : EX9_build N K M a0) (hQ : Q (some (.int (fX9_build N K M a0))) (mX9_build N K M a0)) : Cn X (d + K + 12) mc ms kX9_build [.ref a0] M Q := by
  unfold fX9_build mX9_build at hQ
  obtain ⟨b1, b2⟩ := hE
  exact sX9_build_0 s0 b1 b2 hQ
/-! X9_peeled  -/
set_option maxRecDepth 4000 in
theorem sX9_peeled_0 {N : Nat} {K : Nat} {X : gX} {d mc ms : Nat} {Q : Option Value → gM → Prop} {M : gM} {a0 : Nat} {x1 : Int32} {x2 : Int32} (s0 : Mo M a0) (h1 : (x1 < 0) → Q (some (.int ((-1)))) M) (b2 : (¬ x1 < 0) → (¬ (fX9_lies x2 0 1) = 0) → EX9_laysRanks N K M a0 (g_mi M (a0 + 2) 32)) (b3 : (¬ x1 < 0) → (¬ (fX9_lies x2 0 1) = 0) → EX9_peels N (mX9_laysRanks N K M a0 (g_mi M (a0 + 2) 32)) a0 (g_mi (mX9_laysRanks N K M a0 (g_mi M (a0 + 2) 32)) (a0 + 2) 32)) (b4 : (¬ x1 < 0) → (¬ (fX9_lies x2 0 1) = 0) → (x1 < ((g_mi (mX9_peels N (mX9_laysRanks N K M a0 (g_mi M (a0 + 2) 32)) a0 (g_mi (mX9_laysRanks N K M a0 (g_mi M (a0 + 2) 32)) (a0 + 2) 32)) (a0 + 2) 0) - (g_mi (mX9_peels N (mX9_laysRanks N K M a0 (g_mi M (a0 + 2) 32)) a0 (g_mi (mX9_laysRanks N K M a0 (g_mi M (a0 + 2) 32)) (a0 + 2) 32)) a0 35))) → (¬ x2 = 0) → vp_in (x1) 30) (h5 : (¬ x1 < 0) → (¬ (fX9_lies x2 0 1) = 0) → (x1 < ((g_mi (mX9_peels N (mX9_laysRanks N K M a0 (g_mi M (a0 + 2) 32)) a0 (g_mi (mX9_laysRanks N K M a0 (g_mi M (a0 + 2) 32)) (a0 + 2) 32)) (a0 + 2) 0) - (g_mi (mX9_peels N (mX9_laysRanks N K M a0 (g_mi M (a0 + 2) 32)) a0 (g_mi (mX9_laysRanks N K M a0 (g_mi M (a0 + 2) 32)) (a0 + 2) 32)) a0 35))) → (¬ x2 = 0) → Q (some (.int ((g_mi (mX9_peels N (mX9_laysRanks N K M a0 (g_mi M (a0 + 2) 32)) a0 (g_mi (mX9_laysRanks N K M a0 (g_mi M (a0 + 2) 32)) (a0 + 2) 32)) (a0 + 14) (x1).toNatClampNeg)))) (mX9_peels N (mX9_laysRanks N K M a0 (g_mi M (a0 + 2) 32)) a0 (g_mi (mX9_laysRanks N K M a0 (g_mi M (a0 + 2) 32)) (a0 + 2) 32))) (b6 : (¬ x1 < 0) → (¬ (fX9_lies x2 0 1) = 0) → (x1 < ((g_mi (mX9_peels N (mX9_laysRanks N K M a0 (g_mi M (a0 + 2) 32)) a0 (g_mi (mX9_laysRanks N K M a0 (g_mi M (a0 + 2) 32)) (a0 + 2) 32)) (a0 + 2) 0) - (g_mi (mX9_peels N (mX9_laysRanks N K M a0 (g_mi M (a0 + 2) 32)) a0 (g_mi (mX9_laysRanks N K M a0 (g_mi M (a0 + 2) 32)) (a0 + 2) 32)) a0 35))) → (x2 = 0) → vp_in (x1) 30) (h7 : (¬ x1 < 0) → (¬ (fX9_lies x2 0 1) = 0) → (x1 < ((g_mi (mX9_peels N (mX9_laysRanks N K M a0 (g_mi M (a0 + 2) 32)) a0 (g_mi (mX9_laysRanks N K M a0 (g_mi M (a0 + 2) 32)) (a0 + 2) 32)) (a0 + 2) 0) - (g_mi (mX9_peels N (mX9_laysRanks N K M a0 (g_mi M (a0 + 2) 32)) a0 (g_mi (mX9_laysRanks N K M a0 (g_mi M (a0 + 2) 32)) (a0 + 2) 32)) a0 35))) → (x2 = 0) → Q (some (.int ((g_mi (mX9_peels N (mX9_laysRanks N K M a0 (g_mi M (a0 + 2) 32)) a0 (g_mi (mX9_laysRanks N K M a0 (g_mi M (a0 + 2) 32)) (a0 + 2) 32)) (a0 + 13) (x1).toNatClampNeg)))) (mX9_peels N (mX9_laysRanks N K M a0 (g_mi M (a0 + 2) 32)) a0 (g_mi (mX9_laysRanks N K M a0 (g_mi M (a0 + 2) 32)) (a0 + 2) 32))) (h8 : (¬ x1 < 0) → (¬ (fX9_lies x2 0 1) = 0) → (¬ x1 < ((g_mi (mX9_peels N (mX9_laysRanks N K M a0 (g_mi M (a0 + 2) 32)) a0 (g_mi (mX9_laysRanks N K M a0 (g_mi M (a0 + 2) 32)) (a0 + 2) 32)) (a0 + 2) 0) - (g_mi (mX9_peels N (mX9_laysRanks N K M a0 (g_mi M (a0 + 2) 32)) a0 (g_mi (mX9_laysRanks N K M a0 (g_mi M (a0 + 2) 32)) (a0 + 2) 32)) a0 35))) → Q (some (.int ((-1)))) (mX9_peels N (mX9_laysRanks N K M a0 (g_mi M (a0 + 2) 32)) a0 (g_mi (mX9_laysRanks N K M a0 (g_mi M (a0 + 2) 32)) (a0 + 2) 32))) (h9 : (¬ x1 < 0) → ((fX9_lies x2 0 1) = 0) → Q (some (.int ((-1)))) M) : Cn X (d + K + 10) mc ms kX9_peeled [.ref a0, .int (x1), .int (x2)] M Q := by
  refine g_meth rfl rfl (Nat.le_of_ble_eq_true rfl) rfl ?_
  refine g_iload_n 1 1 dX9_peeled_0 rfl rfl ?_
  refine g_if_lt 13 4 dX9_peeled_1 rfl rfl (fun c1 => ?_) (fun c1 => ?_)
  · skip
    refine g_iconst ((-1)) 14 dX9_peeled_13 rfl rfl ?_
    exact g_iret dX9_peeled_14 rfl (Nat.zero_le _) (Nat.zero_le _) (h1 c1)
  · skip
    refine g_iload_n 2 5 dX9_peeled_4 rfl rfl ?_
    refine g_iconst (0) 6 dX9_peeled_5 rfl rfl ?_
    refine g_iconst (1) 7 dX9_peeled_6 rfl rfl ?_
    refine g_callS (mc1 := 0) (ms1 := 0) (rest := []) (av := [.int (x2), .int (0), .int (1)]) kX9_lies 10 dX9_peeled_7 rfl rfl mbX9_18 smX9_lies (Nat.le_of_ble_eq_true rfl) (Nat.zero_le _) (Nat.zero_le _) (tX9_lies  ?_)
    show Go X (d + K + 10) mc ms kX9_peeled Q 10 [(0, .ref a0), (1, .int (x1)), (2, .int (x2))] [.int ((fX9_lies x2 0 1))] M 0 0
    refine g_if_ne 15 13 dX9_peeled_10 rfl rfl (fun c2 => ?_) (fun c2 => ?_)
    · skip
      refine g_aload_n 0 16 dX9_peeled_15 rfl rfl ?_
      refine g_aload_n 0 17 dX9_peeled_16 rfl rfl ?_
      refine g_getR 20 (a0 + 2) dX9_peeled_17 rfl flX9_28 s0.1 s0.2.2.2.1 ?_
      refine g_bipush (32) 22 dX9_peeled_20 rfl rfl ?_
      refine h_iaload 23 32 dX9_peeled_22 rfl rfl s0.2.2.2.2.1 (vp_lit rfl) ?_
      refine g_callV (mc1 := 0) (ms1 := 0) (b := a0) (rest := []) (av := [.int ((g_mi M (a0 + 2) 32))]) kX9_laysRanks 26 dX9_peeled_23 rfl rfl mbX9_356 imX9_laysRanks seX9_laysRanks gcl9.1 s0.1 (Nat.le_of_ble_eq_true rfl) (Nat.zero_le _) (Nat.zero_le _) (tX9_laysRanks (N := N) (K := K) s0 (b2 c1 c2) ?_)
      show Go X (d + K + 10) mc ms kX9_peeled Q 26 [(0, .ref a0), (1, .int (x1)), (2, .int (x2))] [] (mX9_laysRanks N K M a0 (g_mi M (a0 + 2) 32)) 0 0
      refine g_aload_n 0 27 dX9_peeled_26 rfl rfl ?_
      refine g_aload_n 0 28 dX9_peeled_27 rfl rfl ?_
      refine g_getR 31 (a0 + 2) dX9_peeled_28 rfl flX9_28 (Sm.k (Sm.tr Sm.rf jX9_laysRanks) s0.1) (Sm.r (Sm.tr Sm.rf jX9_laysRanks) s0.2.2.2.1) ?_
      refine g_bipush (32) 33 dX9_peeled_31 rfl rfl ?_
      refine h_iaload 34 32 dX9_peeled_33 rfl rfl (Sm.k (Sm.tr Sm.rf jX9_laysRanks) s0.2.2.2.2.1) (vp_lit rfl) ?_
      refine g_callV (mc1 := 0) (ms1 := 0) (b := a0) (rest := []) (av := [.int ((g_mi (mX9_laysRanks N K M a0 (g_mi M (a0 + 2) 32)) (a0 + 2) 32))]) kX9_peels 37 dX9_peeled_34 rfl rfl mbX9_344 imX9_peels seX9_peels gcl9.1 (Sm.k (Sm.tr Sm.rf jX9_laysRanks) s0.1) (Nat.le_of_ble_eq_true rfl) (Nat.zero_le _) (Nat.zero_le _) (tX9_peels (N := N) (Mo.sm (Sm.tr Sm.rf jX9_laysRanks) s0) (b3 c1 c2) ?_)
      show Go X (d + K + 10) mc ms kX9_peeled Q 37 [(0, .ref a0), (1, .int (x1)), (2, .int (x2))] [] (mX9_peels N (mX9_laysRanks N K M a0 (g_mi M (a0 + 2) 32)) a0 (g_mi (mX9_laysRanks N K M a0 (g_mi M (a0 + 2) 32)) (a0 + 2) 32)) 0 0
      refine g_iload_n 1 38 dX9_peeled_37 rfl rfl ?_
      refine g_aload_n 0 39 dX9_peeled_38 rfl rfl ?_
      refine g_getR 42 (a0 + 2) dX9_peeled_39 rfl flX9_28 (Sm.k (Sm.tr (Sm.tr Sm.rf jX9_laysRanks) jX9_peels) s0.1) (Sm.r (Sm.tr (Sm.tr Sm.rf jX9_laysRanks) jX9_peels) s0.2.2.2.1) ?_
      refine g_iconst (0) 43 dX9_peeled_42 rfl rfl ?_
      refine h_iaload 44 0 dX9_peeled_43 rfl rfl (Sm.k (Sm.tr (Sm.tr Sm.rf jX9_laysRanks) jX9_peels) s0.2.2.2.2.1) (vp_lit rfl) ?_
      refine g_aload_n 0 45 dX9_peeled_44 rfl rfl ?_
      refine g_getI 48 dX9_peeled_45 rfl flX9_338 (Sm.k (Sm.tr (Sm.tr Sm.rf jX9_laysRanks) jX9_peels) s0.1) ?_
      refine g_isub 49 dX9_peeled_48 rfl ?_
      refine g_icmp_lt 54 52 dX9_peeled_49 rfl rfl (fun c3 => ?_) (fun c3 => ?_)
      · skip
        refine g_iload_n 2 55 dX9_peeled_54 rfl rfl ?_
        refine g_if_ne 67 58 dX9_peeled_55 rfl rfl (fun c4 => ?_) (fun c4 => ?_)
        · skip
          refine g_aload_n 0 68 dX9_peeled_67 rfl rfl ?_
          refine g_getR 71 (a0 + 14) dX9_peeled_68 rfl flX9_69 (Sm.k (Sm.tr (Sm.tr Sm.rf jX9_laysRanks) jX9_peels) s0.1) (Sm.r (Sm.tr (Sm.tr Sm.rf jX9_laysRanks) jX9_peels) s0.2.2.2.2.2.2.2.2.2.2.2.2.2.2.2.2.2.2.2.2.2.2.2.2.2.2.2.1) ?_
          refine g_iload_n 1 72 dX9_peeled_71 rfl rfl ?_
          refine h_iaload 73 (x1).toNatClampNeg dX9_peeled_72 rfl rfl (Sm.k (Sm.tr (Sm.tr Sm.rf jX9_laysRanks) jX9_peels) s0.2.2.2.2.2.2.2.2.2.2.2.2.2.2.2.2.2.2.2.2.2.2.2.2.2.2.2.2.1) (b4 c1 c2 c3 c4) ?_
          exact g_iret dX9_peeled_73 rfl (Nat.zero_le _) (Nat.zero_le _) (h5 c1 c2 c3 c4)
        · skip
          refine g_aload_n 0 59 dX9_peeled_58 rfl rfl ?_
          refine g_getR 62 (a0 + 13) dX9_peeled_59 rfl flX9_66 (Sm.k (Sm.tr (Sm.tr Sm.rf jX9_laysRanks) jX9_peels) s0.1) (Sm.r (Sm.tr (Sm.tr Sm.rf jX9_laysRanks) jX9_peels) s0.2.2.2.2.2.2.2.2.2.2.2.2.2.2.2.2.2.2.2.2.2.2.2.2.2.1) ?_
          refine g_iload_n 1 63 dX9_peeled_62 rfl rfl ?_
          refine h_iaload 64 (x1).toNatClampNeg dX9_peeled_63 rfl rfl (Sm.k (Sm.tr (Sm.tr Sm.rf jX9_laysRanks) jX9_peels) s0.2.2.2.2.2.2.2.2.2.2.2.2.2.2.2.2.2.2.2.2.2.2.2.2.2.2.1) (b6 c1 c2 c3 c4) ?_
          refine g_goto 73 dX9_peeled_64 rfl ?_
          exact g_iret dX9_peeled_73 rfl (Nat.zero_le _) (Nat.zero_le _) (h7 c1 c2 c3 c4)
      · skip
        refine g_iconst ((-1)) 53 dX9_peeled_52 rfl rfl ?_
        exact g_iret dX9_peeled_53 rfl (Nat.zero_le _) (Nat.zero_le _) (h8 c1 c2 c3)
    · skip
      refine g_iconst ((-1)) 14 dX9_peeled_13 rfl rfl ?_
      exact g_iret dX9_peeled_14 rfl (Nat.zero_le _) (Nat.zero_le _) (h9 c1 c2)

def fX9_peeled (N : Nat) (K : Nat) (M : gM) (a0 : Nat) (x1 : Int32) (x2 : Int32) : Int32 := (if x1 < 0 then (-1) else (if (fX9_lies x2 0 1) = 0 then (-1) else (if x1 < ((g_mi (mX9_peels N (mX9_laysRanks N K M a0 (g_mi M (a0 + 2) 32)) a0 (g_mi (mX9_laysRanks N K M a0 (g_mi M (a0 + 2) 32)) (a0 + 2) 32)) (a0 + 2) 0) - (g_mi (mX9_peels N (mX9_laysRanks N K M a0 (g_mi M (a0 + 2) 32)) a0 (g_mi (mX9_laysRanks N K M a0 (g_mi M (a0 + 2) 32)) (a0 + 2) 32)) a0 35)) then (if x2 = 0 then (g_mi (mX9_peels N (mX9_laysRanks N K M a0 (g_mi M (a0 + 2) 32)) a0 (g_mi (mX9_laysRanks N K M a0 (g_mi M (a0 + 2) 32)) (a0 + 2) 32)) (a0 + 13) (x1).toNatClampNeg) else (g_mi (mX9_peels N (mX9_laysRanks N K M a0 (g_mi M (a0 + 2) 32)) a0 (g_mi (mX9_laysRanks N K M a0 (g_mi M (a0 + 2) 32)) (a0 + 2) 32)) (a0 + 14) (x1).toNatClampNeg)) else (-1))))
def mX9_peeled (N : Nat) (K : Nat) (M : gM) (a0 : Nat) (x1 : Int32) (x2 : Int32) : gM := g_wm M (if x1 < 0 then (g_mi M) else (if (fX9_lies x2 0 1) = 0 then (g_mi M) else (if x1 < ((g_mi (mX9_peels N (mX9_laysRanks N K M a0 (g_mi M (a0 + 2) 32)) a0 (g_mi (mX9_laysRanks N K M a0 (g_mi M (a0 + 2) 32)) (a0 + 2) 32)) (a0 + 2) 0) - (g_mi (mX9_peels N (mX9_laysRanks N K M a0 (g_mi M (a0 + 2) 32)) a0 (g_mi (mX9_laysRanks N K M a0 (g_mi M (a0 + 2) 32)) (a0 + 2) 32)) a0 35)) then (if x2 = 0 then (g_mi (mX9_peels N (mX9_laysRanks N K M a0 (g_mi M (a0 + 2) 32)) a0 (g_mi (mX9_laysRanks N K M a0 (g_mi M (a0 + 2) 32)) (a0 + 2) 32))) else (g_mi (mX9_peels N (mX9_laysRanks N K M a0 (g_mi M (a0 + 2) 32)) a0 (g_mi (mX9_laysRanks N K M a0 (g_mi M (a0 + 2) 32)) (a0 + 2) 32)))) else (g_mi (mX9_peels N (mX9_laysRanks N K M a0 (g_mi M (a0 + 2) 32)) a0 (g_mi (mX9_laysRanks N K M a0 (g_mi M (a0 + 2) 32)) (a0 + 2) 32)))))) (g_ml M)
def EX9_peeled (N : Nat) (K : Nat) (M : gM) (a0 : Nat) (x1 : Int32) (x2 : Int32) : Prop := ((¬ x1 < 0) → (¬ (fX9_lies x2 0 1) = 0) → EX9_laysRanks N K M a0 (g_mi M (a0 + 2) 32)) ∧ ((¬ x1 < 0) → (¬ (fX9_lies x2 0 1) = 0) → EX9_peels N (mX9_laysRanks N K M a0 (g_mi M (a0 + 2) 32)) a0 (g_mi (mX9_laysRanks N K M a0 (g_mi M (a0 + 2) 32)) (a0 + 2) 32)) ∧ ((¬ x1 < 0) → (¬ (fX9_lies x2 0 1) = 0) → (x1 < ((g_mi (mX9_peels N (mX9_laysRanks N K M a0 (g_mi M (a0 + 2) 32)) a0 (g_mi (mX9_laysRanks N K M a0 (g_mi M (a0 + 2) 32)) (a0 + 2) 32)) (a0 + 2) 0) - (g_mi (mX9_peels N (mX9_laysRanks N K M a0 (g_mi M (a0 + 2) 32)) a0 (g_mi (mX9_laysRanks N K M a0 (g_mi M (a0 + 2) 32)) (a0 + 2) 32)) a0 35))) → (¬ x2 = 0) → vp_in (x1) 30) ∧ ((¬ x1 < 0) → (¬ (fX9_lies x2 0 1) = 0) → (x1 < ((g_mi (mX9_peels N (mX9_laysRanks N K M a0 (g_mi M (a0 + 2) 32)) a0 (g_mi (mX9_laysRanks N K M a0 (g_mi M (a0 + 2) 32)) (a0 + 2) 32)) (a0 + 2) 0) - (g_mi (mX9_peels N (mX9_laysRanks N K M a0 (g_mi M (a0 + 2) 32)) a0 (g_mi (mX9_laysRanks N K M a0 (g_mi M (a0 + 2) 32)) (a0 + 2) 32)) a0 35))) → (x2 = 0) → vp_in (x1) 30)
theorem jX9_peeled {N : Nat} {K : Nat} {M : gM} {a0 : Nat} {x1 : Int32} {x2 : Int32} : Sm M (mX9_peeled N K M a0 x1 x2) := Sm.wm
theorem tX9_peeled {N : Nat} {K : Nat} {X : gX} {d mc ms : Nat} {Q : Option Value → gM → Prop} {M : gM} {a0 : Nat} {x1 : Int32} {x2 : Int32} (s0 : Mo M a0) (hE : EX9_peeled N K M a0 x1 x2) (hQ : Q (some (.int (fX9_peeled N K M a0 x1 x2))) (mX9_peeled N K M a0 x1 x2)) : Cn X (d + K + 10) mc ms kX9_peeled [.ref a0, .int (x1), .int (x2)] M Q := by
  unfold fX9_peeled mX9_peeled at hQ
  obtain ⟨b2, b3, b4, b6⟩ := hE
  exact sX9_peeled_0 s0 (fun c1 => by simp only [if_pos c1] at hQ; exact Sm.q Sm.rf hQ) b2 b3 b4 (fun c1 c2 c3 c4 => by simp only [if_neg c1, if_neg c2, if_pos c3, if_neg c4] at hQ; exact Sm.q (Sm.tr (Sm.tr Sm.rf jX9_laysRanks) jX9_peels) hQ) b6 (fun c1 c2 c3 c4 => by simp only [if_neg c1, if_neg c2, if_pos c3, if_pos c4] at hQ; exact Sm.q (Sm.tr (Sm.tr Sm.rf jX9_laysRanks) jX9_peels) hQ) (fun c1 c2 c3 => by simp only [if_neg c1, if_neg c2, if_neg c3] at hQ; exact Sm.q (Sm.tr (Sm.tr Sm.rf jX9_laysRanks) jX9_peels) hQ) (fun c1 c2 => by simp only [if_neg c1, if_pos c2] at hQ; exact Sm.q Sm.rf hQ)
/-! X9_compare  -/
set_option maxRecDepth 4000 in
theorem sX9_compare_0 {N : Nat} {K : Nat} {X : gX} {d mc ms : Nat} {Q : Option Value → gM → Prop} {M : gM} {a0 : Nat} {x1 : Int32} {x2 : Int32} (s0 : Mo M a0) (b1 : EX9_isLaw M a0 x1) (h2 : ((fX9_isLaw M a0 x1) = 0) → Q (some (.int ((-1)))) M) (b3 : (¬ (fX9_isLaw M a0 x1) = 0) → EX9_isVertex M a0 x2) (b4 : (¬ (fX9_isLaw M a0 x1) = 0) → (¬ (fX9_isVertex M a0 x2) = 0) → EX9_ranksOf N K (g_wi M (a0 + 2) 204 x1) a0 x2 (g_mi (g_wi M (a0 + 2) 204 x1) (a0 + 2) 32)) (h5 : (¬ (fX9_isLaw M a0 x1) = 0) → (¬ (fX9_isVertex M a0 x2) = 0) → Q (some (.int ((fX9_ranksOf N K (g_wi M (a0 + 2) 204 x1) a0 x2 (g_mi (g_wi M (a0 + 2) 204 x1) (a0 + 2) 32))))) (g_wi (mX9_ranksOf N K (g_wi M (a0 + 2) 204 x1) a0 x2 (g_mi (g_wi M (a0 + 2) 204 x1) (a0 + 2) 32)) (a0 + 2) 204 (g_mi M (a0 + 2) 204))) (h6 : (¬ (fX9_isLaw M a0 x1) = 0) → ((fX9_isVertex M a0 x2) = 0) → Q (some (.int ((-1)))) M) : Cn X (d + K + 9) mc ms kX9_compare [.ref a0, .int (x1), .int (x2)] M Q := by
  refine g_meth rfl rfl (Nat.le_of_ble_eq_true rfl) rfl ?_
  refine g_aload_n 0 1 dX9_compare_0 rfl rfl ?_
  refine g_iload_n 1 2 dX9_compare_1 rfl rfl ?_
  refine g_callV (mc1 := 0) (ms1 := 0) (b := a0) (rest := []) (av := [.int (x1)]) kX9_isLaw 5 dX9_compare_2 rfl rfl mbX9_263 imX9_isLaw seX9_isLaw gcl9.1 s0.1 (Nat.le_of_ble_eq_true rfl) (Nat.zero_le _) (Nat.zero_le _) (tX9_isLaw s0 (b1) ?_)
  show Go X (d + K + 9) mc ms kX9_compare Q 5 [(0, .ref a0), (1, .int (x1)), (2, .int (x2))] [.int ((fX9_isLaw M a0 x1))] M 0 0
  refine g_if_eq 16 8 dX9_compare_5 rfl rfl (fun c1 => ?_) (fun c1 => ?_)
  · skip
    refine g_iconst ((-1)) 17 dX9_compare_16 rfl rfl ?_
    exact g_iret dX9_compare_17 rfl (Nat.zero_le _) (Nat.zero_le _) (h2 c1)
  · skip
    refine g_aload_n 0 9 dX9_compare_8 rfl rfl ?_
    refine g_iload_n 2 10 dX9_compare_9 rfl rfl ?_
    refine g_callV (mc1 := 0) (ms1 := 0) (b := a0) (rest := []) (av := [.int (x2)]) kX9_isVertex 13 dX9_compare_10 rfl rfl mbX9_137 imX9_isVertex seX9_isVertex gcl9.1 s0.1 (Nat.le_of_ble_eq_true rfl) (Nat.zero_le _) (Nat.zero_le _) (tX9_isVertex s0 (b3 c1) ?_)
    show Go X (d + K + 9) mc ms kX9_compare Q 13 [(0, .ref a0), (1, .int (x1)), (2, .int (x2))] [.int ((fX9_isVertex M a0 x2))] M 0 0
    refine g_if_ne 18 16 dX9_compare_13 rfl rfl (fun c2 => ?_) (fun c2 => ?_)
    · skip
      refine g_aload_n 0 19 dX9_compare_18 rfl rfl ?_
      refine g_getR 22 (a0 + 2) dX9_compare_19 rfl flX9_28 s0.1 s0.2.2.2.1 ?_
      refine g_sipush (204) 25 dX9_compare_22 rfl rfl ?_
      refine h_iaload 26 204 dX9_compare_25 rfl rfl s0.2.2.2.2.1 (vp_lit rfl) ?_
      refine g_istore_n 27 [(3, .int ((g_mi M (a0 + 2) 204))), (0, .ref a0), (1, .int (x1)), (2, .int (x2))] dX9_compare_26 rfl (Nat.le_of_ble_eq_true rfl) rfl ?_
      refine g_aload_n 1 28 dX9_compare_27 rfl rfl ?_
      refine g_getR 31 (a0 + 2) dX9_compare_28 rfl flX9_28 s0.1 s0.2.2.2.1 ?_
      refine g_sipush (204) 34 dX9_compare_31 rfl rfl ?_
      refine g_iload_n 2 35 dX9_compare_34 rfl rfl ?_
      refine h_iastore 36 204 dX9_compare_35 rfl rfl s0.2.2.2.2.1 (vp_lit rfl) ?_
      refine g_aload_n 1 37 dX9_compare_36 rfl rfl ?_
      refine g_iload_n 3 38 dX9_compare_37 rfl rfl ?_
      refine g_aload_n 1 39 dX9_compare_38 rfl rfl ?_
      refine g_getR 42 (a0 + 2) dX9_compare_39 rfl flX9_28 (Sm.k (Sm.wi Sm.rf) s0.1) (Sm.r (Sm.wi Sm.rf) s0.2.2.2.1) ?_
      refine g_bipush (32) 44 dX9_compare_42 rfl rfl ?_
      refine h_iaload 45 32 dX9_compare_44 rfl rfl (Sm.k (Sm.wi Sm.rf) s0.2.2.2.2.1) (vp_lit rfl) ?_
      refine g_callV (mc1 := 0) (ms1 := 0) (b := a0) (rest := []) (av := [.int (x2), .int ((g_mi (g_wi M (a0 + 2) 204 x1) (a0 + 2) 32))]) kX9_ranksOf 48 dX9_compare_45 rfl rfl mbX9_144 imX9_ranksOf seX9_ranksOf gcl9.1 (Sm.k (Sm.wi Sm.rf) s0.1) (Nat.le_of_ble_eq_true rfl) (Nat.zero_le _) (Nat.zero_le _) (tX9_ranksOf (N := N) (K := K) (Mo.sm (Sm.wi Sm.rf) s0) (b4 c1 c2) ?_)
      show Go X (d + K + 9) mc ms kX9_compare Q 48 [(3, .int ((g_mi M (a0 + 2) 204))), (0, .ref a0), (1, .int (x1)), (2, .int (x2))] [.int ((fX9_ranksOf N K (g_wi M (a0 + 2) 204 x1) a0 x2 (g_mi (g_wi M (a0 + 2) 204 x1) (a0 + 2) 32)))] (mX9_ranksOf N K (g_wi M (a0 + 2) 204 x1) a0 x2 (g_mi (g_wi M (a0 + 2) 204 x1) (a0 + 2) 32)) 0 0
      refine g_istore 50 [(4, .int ((fX9_ranksOf N K (g_wi M (a0 + 2) 204 x1) a0 x2 (g_mi (g_wi M (a0 + 2) 204 x1) (a0 + 2) 32)))), (3, .int ((g_mi M (a0 + 2) 204))), (0, .ref a0), (1, .int (x1)), (2, .int (x2))] dX9_compare_48 rfl (Nat.le_of_ble_eq_true rfl) rfl ?_
      refine g_aload_n 2 51 dX9_compare_50 rfl rfl ?_
      refine g_getR 54 (a0 + 2) dX9_compare_51 rfl flX9_28 (Sm.k (Sm.tr (Sm.wi Sm.rf) jX9_ranksOf) s0.1) (Sm.r (Sm.tr (Sm.wi Sm.rf) jX9_ranksOf) s0.2.2.2.1) ?_
      refine g_sipush (204) 57 dX9_compare_54 rfl rfl ?_
      refine g_iload_n 1 58 dX9_compare_57 rfl rfl ?_
      refine h_iastore 59 204 dX9_compare_58 rfl rfl (Sm.k (Sm.tr (Sm.wi Sm.rf) jX9_ranksOf) s0.2.2.2.2.1) (vp_lit rfl) ?_
      refine g_iload 0 61 dX9_compare_59 rfl rfl ?_
      exact g_iret dX9_compare_61 rfl (Nat.zero_le _) (Nat.zero_le _) (h5 c1 c2)
    · skip
      refine g_iconst ((-1)) 17 dX9_compare_16 rfl rfl ?_
      exact g_iret dX9_compare_17 rfl (Nat.zero_le _) (Nat.zero_le _) (h6 c1 c2)

def fX9_compare (N : Nat) (K : Nat) (M : gM) (a0 : Nat) (x1 : Int32) (x2 : Int32) : Int32 := (if (fX9_isLaw M a0 x1) = 0 then (-1) else (if (fX9_isVertex M a0 x2) = 0 then (-1) else (fX9_ranksOf N K (g_wi M (a0 + 2) 204 x1) a0 x2 (g_mi (g_wi M (a0 + 2) 204 x1) (a0 + 2) 32))))
def mX9_compare (N : Nat) (K : Nat) (M : gM) (a0 : Nat) (x1 : Int32) (x2 : Int32) : gM := g_wm M (if (fX9_isLaw M a0 x1) = 0 then (g_mi M) else (if (fX9_isVertex M a0 x2) = 0 then (g_mi M) else (g_mi (g_wi (mX9_ranksOf N K (g_wi M (a0 + 2) 204 x1) a0 x2 (g_mi (g_wi M (a0 + 2) 204 x1) (a0 + 2) 32)) (a0 + 2) 204 (g_mi M (a0 + 2) 204))))) (g_ml M)
def EX9_compare (N : Nat) (K : Nat) (M : gM) (a0 : Nat) (x1 : Int32) (x2 : Int32) : Prop := (EX9_isLaw M a0 x1) ∧ ((¬ (fX9_isLaw M a0 x1) = 0) → EX9_isVertex M a0 x2) ∧ ((¬ (fX9_isLaw M a0 x1) = 0) → (¬ (fX9_isVertex M a0 x2) = 0) → EX9_ranksOf N K (g_wi M (a0 + 2) 204 x1) a0 x2 (g_mi (g_wi M (a0 + 2) 204 x1) (a0 + 2) 32))
theorem jX9_compare {N : Nat} {K : Nat} {M : gM} {a0 : Nat} {x1 : Int32} {x2 : Int32} : Sm M (mX9_compare N K M a0 x1 x2) := Sm.wm
theorem tX9_compare {N : Nat} {K : Nat} {X : gX} {d mc ms : Nat} {Q : Option Value → gM → Prop} {M : gM} {a0 : Nat} {x1 : Int32} {x2 : Int32} (s0 : Mo M a0) (hE : EX9_compare N K M a0 x1 x2) (hQ : Q (some (.int (fX9_compare N K M a0 x1 x2))) (mX9_compare N K M a0 x1 x2)) : Cn X (d + K + 9) mc ms kX9_compare [.ref a0, .int (x1), .int (x2)] M Q := by
  unfold fX9_compare mX9_compare at hQ
  obtain ⟨b1, b3, b4⟩ := hE
  exact sX9_compare_0 s0 b1 (fun c1 => by simp only [if_pos c1] at hQ; exact Sm.q Sm.rf hQ) b3 b4 (fun c1 c2 => by simp only [if_neg c1, if_neg c2] at hQ; exact Sm.q (Sm.wi (Sm.tr (Sm.wi Sm.rf) jX9_ranksOf)) hQ) (fun c1 c2 => by simp only [if_neg c1, if_pos c2] at hQ; exact Sm.q Sm.rf hQ)
/-! X9_goesAlong  -/
set_option maxRecDepth 4000 in
theorem sX9_goesAlong_0 {N : Nat} {K : Nat} {X : gX} {d mc ms : Nat} {Q : Option Value → gM → Prop} {M : gM} {a0 : Nat} {x1 : Int32} {x2 : Int32} (s0 : Mo M a0) (b1 : EX9_codeAt (g_wi (g_wi (g_wi M a0 25 1) a0 23 x1) a0 22 (g_mi (g_wi (g_wi M a0 25 1) a0 23 x1) a0 41)) a0 (g_mi (g_wi (g_wi (g_wi M a0 25 1) a0 23 x1) a0 22 (g_mi (g_wi (g_wi M a0 25 1) a0 23 x1) a0 41)) a0 22)) (b2 : (¬ (g_mi (g_wi (g_wi (g_wi (g_wi (g_wi (g_wi M a0 25 1) a0 23 x1) a0 22 (g_mi (g_wi (g_wi M a0 25 1) a0 23 x1) a0 41)) a0 43 (fX9_codeAt (g_wi (g_wi (g_wi M a0 25 1) a0 23 x1) a0 22 (g_mi (g_wi (g_wi M a0 25 1) a0 23 x1) a0 41)) a0 (g_mi (g_wi (g_wi (g_wi M a0 25 1) a0 23 x1) a0 22 (g_mi (g_wi (g_wi M a0 25 1) a0 23 x1) a0 41)) a0 22))) a0 22 ((g_mi (g_wi (g_wi (g_wi (g_wi M a0 25 1) a0 23 x1) a0 22 (g_mi (g_wi (g_wi M a0 25 1) a0 23 x1) a0 41)) a0 43 (fX9_codeAt (g_wi (g_wi (g_wi M a0 25 1) a0 23 x1) a0 22 (g_mi (g_wi (g_wi M a0 25 1) a0 23 x1) a0 41)) a0 (g_mi (g_wi (g_wi (g_wi M a0 25 1) a0 23 x1) a0 22 (g_mi (g_wi (g_wi M a0 25 1) a0 23 x1) a0 41)) a0 22))) a0 22) + 1)) a0 24 0) a0 43) = 21) → EX9_sumOf N K (g_wi (g_wi (g_wi (g_wi (g_wi (g_wi M a0 25 1) a0 23 x1) a0 22 (g_mi (g_wi (g_wi M a0 25 1) a0 23 x1) a0 41)) a0 43 (fX9_codeAt (g_wi (g_wi (g_wi M a0 25 1) a0 23 x1) a0 22 (g_mi (g_wi (g_wi M a0 25 1) a0 23 x1) a0 41)) a0 (g_mi (g_wi (g_wi (g_wi M a0 25 1) a0 23 x1) a0 22 (g_mi (g_wi (g_wi M a0 25 1) a0 23 x1) a0 41)) a0 22))) a0 22 ((g_mi (g_wi (g_wi (g_wi (g_wi M a0 25 1) a0 23 x1) a0 22 (g_mi (g_wi (g_wi M a0 25 1) a0 23 x1) a0 41)) a0 43 (fX9_codeAt (g_wi (g_wi (g_wi M a0 25 1) a0 23 x1) a0 22 (g_mi (g_wi (g_wi M a0 25 1) a0 23 x1) a0 41)) a0 (g_mi (g_wi (g_wi (g_wi M a0 25 1) a0 23 x1) a0 22 (g_mi (g_wi (g_wi M a0 25 1) a0 23 x1) a0 41)) a0 22))) a0 22) + 1)) a0 24 0) a0 x2) (h3 : (¬ (g_mi (g_wi (g_wi (g_wi (g_wi (g_wi (g_wi M a0 25 1) a0 23 x1) a0 22 (g_mi (g_wi (g_wi M a0 25 1) a0 23 x1) a0 41)) a0 43 (fX9_codeAt (g_wi (g_wi (g_wi M a0 25 1) a0 23 x1) a0 22 (g_mi (g_wi (g_wi M a0 25 1) a0 23 x1) a0 41)) a0 (g_mi (g_wi (g_wi (g_wi M a0 25 1) a0 23 x1) a0 22 (g_mi (g_wi (g_wi M a0 25 1) a0 23 x1) a0 41)) a0 22))) a0 22 ((g_mi (g_wi (g_wi (g_wi (g_wi M a0 25 1) a0 23 x1) a0 22 (g_mi (g_wi (g_wi M a0 25 1) a0 23 x1) a0 41)) a0 43 (fX9_codeAt (g_wi (g_wi (g_wi M a0 25 1) a0 23 x1) a0 22 (g_mi (g_wi (g_wi M a0 25 1) a0 23 x1) a0 41)) a0 (g_mi (g_wi (g_wi (g_wi M a0 25 1) a0 23 x1) a0 22 (g_mi (g_wi (g_wi M a0 25 1) a0 23 x1) a0 41)) a0 22))) a0 22) + 1)) a0 24 0) a0 43) = 21) → Go X (d + K + 7) mc ms kX9_goesAlong Q 69 [(0, .ref a0), (2, .int (x2))] [] (g_wl (mX9_sumOf N K (g_wi (g_wi (g_wi (g_wi (g_wi (g_wi M a0 25 1) a0 23 x1) a0 22 (g_mi (g_wi (g_wi M a0 25 1) a0 23 x1) a0 41)) a0 43 (fX9_codeAt (g_wi (g_wi (g_wi M a0 25 1) a0 23 x1) a0 22 (g_mi (g_wi (g_wi M a0 25 1) a0 23 x1) a0 41)) a0 (g_mi (g_wi (g_wi (g_wi M a0 25 1) a0 23 x1) a0 22 (g_mi (g_wi (g_wi M a0 25 1) a0 23 x1) a0 41)) a0 22))) a0 22 ((g_mi (g_wi (g_wi (g_wi (g_wi M a0 25 1) a0 23 x1) a0 22 (g_mi (g_wi (g_wi M a0 25 1) a0 23 x1) a0 41)) a0 43 (fX9_codeAt (g_wi (g_wi (g_wi M a0 25 1) a0 23 x1) a0 22 (g_mi (g_wi (g_wi M a0 25 1) a0 23 x1) a0 41)) a0 (g_mi (g_wi (g_wi (g_wi M a0 25 1) a0 23 x1) a0 22 (g_mi (g_wi (g_wi M a0 25 1) a0 23 x1) a0 41)) a0 22))) a0 22) + 1)) a0 24 0) a0 x2) (a0 + 22) 0 (fX9_sumOf N K (g_wi (g_wi (g_wi (g_wi (g_wi (g_wi M a0 25 1) a0 23 x1) a0 22 (g_mi (g_wi (g_wi M a0 25 1) a0 23 x1) a0 41)) a0 43 (fX9_codeAt (g_wi (g_wi (g_wi M a0 25 1) a0 23 x1) a0 22 (g_mi (g_wi (g_wi M a0 25 1) a0 23 x1) a0 41)) a0 (g_mi (g_wi (g_wi (g_wi M a0 25 1) a0 23 x1) a0 22 (g_mi (g_wi (g_wi M a0 25 1) a0 23 x1) a0 41)) a0 22))) a0 22 ((g_mi (g_wi (g_wi (g_wi (g_wi M a0 25 1) a0 23 x1) a0 22 (g_mi (g_wi (g_wi M a0 25 1) a0 23 x1) a0 41)) a0 43 (fX9_codeAt (g_wi (g_wi (g_wi M a0 25 1) a0 23 x1) a0 22 (g_mi (g_wi (g_wi M a0 25 1) a0 23 x1) a0 41)) a0 (g_mi (g_wi (g_wi (g_wi M a0 25 1) a0 23 x1) a0 22 (g_mi (g_wi (g_wi M a0 25 1) a0 23 x1) a0 41)) a0 22))) a0 22) + 1)) a0 24 0) a0 x2)) 0 0) (h4 : ((g_mi (g_wi (g_wi (g_wi (g_wi (g_wi (g_wi M a0 25 1) a0 23 x1) a0 22 (g_mi (g_wi (g_wi M a0 25 1) a0 23 x1) a0 41)) a0 43 (fX9_codeAt (g_wi (g_wi (g_wi M a0 25 1) a0 23 x1) a0 22 (g_mi (g_wi (g_wi M a0 25 1) a0 23 x1) a0 41)) a0 (g_mi (g_wi (g_wi (g_wi M a0 25 1) a0 23 x1) a0 22 (g_mi (g_wi (g_wi M a0 25 1) a0 23 x1) a0 41)) a0 22))) a0 22 ((g_mi (g_wi (g_wi (g_wi (g_wi M a0 25 1) a0 23 x1) a0 22 (g_mi (g_wi (g_wi M a0 25 1) a0 23 x1) a0 41)) a0 43 (fX9_codeAt (g_wi (g_wi (g_wi M a0 25 1) a0 23 x1) a0 22 (g_mi (g_wi (g_wi M a0 25 1) a0 23 x1) a0 41)) a0 (g_mi (g_wi (g_wi (g_wi M a0 25 1) a0 23 x1) a0 22 (g_mi (g_wi (g_wi M a0 25 1) a0 23 x1) a0 41)) a0 22))) a0 22) + 1)) a0 24 0) a0 43) = 21) → Go X (d + K + 7) mc ms kX9_goesAlong Q 69 [(0, .ref a0), (2, .int (x2))] [] (g_wl (g_wi (g_wi (g_wi (g_wi (g_wi (g_wi M a0 25 1) a0 23 x1) a0 22 (g_mi (g_wi (g_wi M a0 25 1) a0 23 x1) a0 41)) a0 43 (fX9_codeAt (g_wi (g_wi (g_wi M a0 25 1) a0 23 x1) a0 22 (g_mi (g_wi (g_wi M a0 25 1) a0 23 x1) a0 41)) a0 (g_mi (g_wi (g_wi (g_wi M a0 25 1) a0 23 x1) a0 22 (g_mi (g_wi (g_wi M a0 25 1) a0 23 x1) a0 41)) a0 22))) a0 22 ((g_mi (g_wi (g_wi (g_wi (g_wi M a0 25 1) a0 23 x1) a0 22 (g_mi (g_wi (g_wi M a0 25 1) a0 23 x1) a0 41)) a0 43 (fX9_codeAt (g_wi (g_wi (g_wi M a0 25 1) a0 23 x1) a0 22 (g_mi (g_wi (g_wi M a0 25 1) a0 23 x1) a0 41)) a0 (g_mi (g_wi (g_wi (g_wi M a0 25 1) a0 23 x1) a0 22 (g_mi (g_wi (g_wi M a0 25 1) a0 23 x1) a0 41)) a0 22))) a0 22) + 1)) a0 24 0) (a0 + 22) 0 0) 0 0) : Cn X (d + K + 7) mc ms kX9_goesAlong [.ref a0, .int (x1), .int (x2)] M Q := by
  refine g_meth rfl rfl (Nat.le_of_ble_eq_true rfl) rfl ?_
  refine g_aload_n 0 1 dX9_goesAlong_0 rfl rfl ?_
  refine g_iconst (1) 2 dX9_goesAlong_1 rfl rfl ?_
  refine g_putZ 5 dX9_goesAlong_2 rfl flX9_299 s0.1 (by decide) ?_
  refine g_aload_n 0 6 dX9_goesAlong_5 rfl rfl ?_
  refine g_iload_n 1 7 dX9_goesAlong_6 rfl rfl ?_
  refine g_putI 10 dX9_goesAlong_7 rfl flX9_266 (Sm.k (Sm.wi Sm.rf) s0.1) ?_
  refine g_aload_n 0 11 dX9_goesAlong_10 rfl rfl ?_
  refine g_aload_n 0 12 dX9_goesAlong_11 rfl rfl ?_
  refine g_getI 15 dX9_goesAlong_12 rfl flX9_440 (Sm.k (Sm.wi (Sm.wi Sm.rf)) s0.1) ?_
  refine g_putI 18 dX9_goesAlong_15 rfl flX9_269 (Sm.k (Sm.wi (Sm.wi Sm.rf)) s0.1) ?_
  refine g_aload_n 0 19 dX9_goesAlong_18 rfl rfl ?_
  refine g_aload_n 0 20 dX9_goesAlong_19 rfl rfl ?_
  refine g_aload_n 0 21 dX9_goesAlong_20 rfl rfl ?_
  refine g_getI 24 dX9_goesAlong_21 rfl flX9_269 (Sm.k (Sm.wi (Sm.wi (Sm.wi Sm.rf))) s0.1) ?_
  refine g_callV (mc1 := 0) (ms1 := 0) (b := a0) (rest := [.ref a0]) (av := [.int ((g_mi (g_wi (g_wi (g_wi M a0 25 1) a0 23 x1) a0 22 (g_mi (g_wi (g_wi M a0 25 1) a0 23 x1) a0 41)) a0 22))]) kX9_codeAt 27 dX9_goesAlong_24 rfl rfl mbX9_272 imX9_codeAt seX9_codeAt gcl9.1 (Sm.k (Sm.wi (Sm.wi (Sm.wi Sm.rf))) s0.1) (Nat.le_of_ble_eq_true rfl) (Nat.zero_le _) (Nat.zero_le _) (tX9_codeAt (Mo.sm (Sm.wi (Sm.wi (Sm.wi Sm.rf))) s0) (b1) ?_)
  show Go X (d + K + 7) mc ms kX9_goesAlong Q 27 [(0, .ref a0), (1, .int (x1)), (2, .int (x2))] [.int ((fX9_codeAt (g_wi (g_wi (g_wi M a0 25 1) a0 23 x1) a0 22 (g_mi (g_wi (g_wi M a0 25 1) a0 23 x1) a0 41)) a0 (g_mi (g_wi (g_wi (g_wi M a0 25 1) a0 23 x1) a0 22 (g_mi (g_wi (g_wi M a0 25 1) a0 23 x1) a0 41)) a0 22))), .ref a0] (g_wi (g_wi (g_wi M a0 25 1) a0 23 x1) a0 22 (g_mi (g_wi (g_wi M a0 25 1) a0 23 x1) a0 41)) 0 0
  refine g_putI 30 dX9_goesAlong_27 rfl flX9_449 (Sm.k (Sm.wi (Sm.wi (Sm.wi Sm.rf))) s0.1) ?_
  refine g_aload_n 0 31 dX9_goesAlong_30 rfl rfl ?_
  refine g_dup 32 dX9_goesAlong_31 rfl rfl ?_
  refine g_getI 35 dX9_goesAlong_32 rfl flX9_269 (Sm.k (Sm.wi (Sm.wi (Sm.wi (Sm.wi Sm.rf)))) s0.1) ?_
  refine g_iconst (1) 36 dX9_goesAlong_35 rfl rfl ?_
  refine g_iadd 37 dX9_goesAlong_36 rfl ?_
  refine g_putI 40 dX9_goesAlong_37 rfl flX9_269 (Sm.k (Sm.wi (Sm.wi (Sm.wi (Sm.wi Sm.rf)))) s0.1) ?_
  refine g_aload_n 0 41 dX9_goesAlong_40 rfl rfl ?_
  refine g_iconst (0) 42 dX9_goesAlong_41 rfl rfl ?_
  refine g_putZ 45 dX9_goesAlong_42 rfl flX9_279 (Sm.k (Sm.wi (Sm.wi (Sm.wi (Sm.wi (Sm.wi Sm.rf))))) s0.1) (by decide) ?_
  refine g_aload_n 0 46 dX9_goesAlong_45 rfl rfl ?_
  refine g_getR 49 (a0 + 22) dX9_goesAlong_46 rfl flX9_97 (Sm.k (Sm.wi (Sm.wi (Sm.wi (Sm.wi (Sm.wi (Sm.wi Sm.rf)))))) s0.1) (Sm.r (Sm.wi (Sm.wi (Sm.wi (Sm.wi (Sm.wi (Sm.wi Sm.rf)))))) s0.2.2.2.2.2.2.2.2.2.2.2.2.2.2.2.2.2.2.2.2.2.2.2.2.2.2.2.2.2.2.2.2.2.2.2.2.2.2.2.2.2.2.2.1) ?_
  refine g_iconst (0) 50 dX9_goesAlong_49 rfl rfl ?_
  refine g_aload_n 0 51 dX9_goesAlong_50 rfl rfl ?_
  refine g_getI 54 dX9_goesAlong_51 rfl flX9_449 (Sm.k (Sm.wi (Sm.wi (Sm.wi (Sm.wi (Sm.wi (Sm.wi Sm.rf)))))) s0.1) ?_
  refine g_bipush (21) 56 dX9_goesAlong_54 rfl rfl ?_
  refine g_icmp_ne 63 59 dX9_goesAlong_56 rfl rfl (fun c1 => ?_) (fun c1 => ?_)
  · skip
    refine g_aload_n 0 64 dX9_goesAlong_63 rfl rfl ?_
    refine g_iload_n 2 65 dX9_goesAlong_64 rfl rfl ?_
    refine g_callV (mc1 := 0) (ms1 := 0) (b := a0) (rest := [.int (0), .ref (a0 + 22)]) (av := [.int (x2)]) kX9_sumOf 68 dX9_goesAlong_65 rfl rfl mbX9_296 imX9_sumOf seX9_sumOf gcl9.1 (Sm.k (Sm.wi (Sm.wi (Sm.wi (Sm.wi (Sm.wi (Sm.wi Sm.rf)))))) s0.1) (Nat.le_of_ble_eq_true rfl) (Nat.zero_le _) (Nat.zero_le _) (tX9_sumOf (N := N) (K := K) (Mo.sm (Sm.wi (Sm.wi (Sm.wi (Sm.wi (Sm.wi (Sm.wi Sm.rf)))))) s0) (b2 c1) ?_)
    show Go X (d + K + 7) mc ms kX9_goesAlong Q 68 [(0, .ref a0), (1, .int (x1)), (2, .int (x2))] [.long ((fX9_sumOf N K (g_wi (g_wi (g_wi (g_wi (g_wi (g_wi M a0 25 1) a0 23 x1) a0 22 (g_mi (g_wi (g_wi M a0 25 1) a0 23 x1) a0 41)) a0 43 (fX9_codeAt (g_wi (g_wi (g_wi M a0 25 1) a0 23 x1) a0 22 (g_mi (g_wi (g_wi M a0 25 1) a0 23 x1) a0 41)) a0 (g_mi (g_wi (g_wi (g_wi M a0 25 1) a0 23 x1) a0 22 (g_mi (g_wi (g_wi M a0 25 1) a0 23 x1) a0 41)) a0 22))) a0 22 ((g_mi (g_wi (g_wi (g_wi (g_wi M a0 25 1) a0 23 x1) a0 22 (g_mi (g_wi (g_wi M a0 25 1) a0 23 x1) a0 41)) a0 43 (fX9_codeAt (g_wi (g_wi (g_wi M a0 25 1) a0 23 x1) a0 22 (g_mi (g_wi (g_wi M a0 25 1) a0 23 x1) a0 41)) a0 (g_mi (g_wi (g_wi (g_wi M a0 25 1) a0 23 x1) a0 22 (g_mi (g_wi (g_wi M a0 25 1) a0 23 x1) a0 41)) a0 22))) a0 22) + 1)) a0 24 0) a0 x2)), .int (0), .ref (a0 + 22)] (mX9_sumOf N K (g_wi (g_wi (g_wi (g_wi (g_wi (g_wi M a0 25 1) a0 23 x1) a0 22 (g_mi (g_wi (g_wi M a0 25 1) a0 23 x1) a0 41)) a0 43 (fX9_codeAt (g_wi (g_wi (g_wi M a0 25 1) a0 23 x1) a0 22 (g_mi (g_wi (g_wi M a0 25 1) a0 23 x1) a0 41)) a0 (g_mi (g_wi (g_wi (g_wi M a0 25 1) a0 23 x1) a0 22 (g_mi (g_wi (g_wi M a0 25 1) a0 23 x1) a0 41)) a0 22))) a0 22 ((g_mi (g_wi (g_wi (g_wi (g_wi M a0 25 1) a0 23 x1) a0 22 (g_mi (g_wi (g_wi M a0 25 1) a0 23 x1) a0 41)) a0 43 (fX9_codeAt (g_wi (g_wi (g_wi M a0 25 1) a0 23 x1) a0 22 (g_mi (g_wi (g_wi M a0 25 1) a0 23 x1) a0 41)) a0 (g_mi (g_wi (g_wi (g_wi M a0 25 1) a0 23 x1) a0 22 (g_mi (g_wi (g_wi M a0 25 1) a0 23 x1) a0 41)) a0 22))) a0 22) + 1)) a0 24 0) a0 x2) 0 0
    refine h_lastore 69 0 dX9_goesAlong_68 rfl rfl (Sm.k (Sm.tr (Sm.wi (Sm.wi (Sm.wi (Sm.wi (Sm.wi (Sm.wi Sm.rf)))))) jX9_sumOf) s0.2.2.2.2.2.2.2.2.2.2.2.2.2.2.2.2.2.2.2.2.2.2.2.2.2.2.2.2.2.2.2.2.2.2.2.2.2.2.2.2.2.2.2.2.1) (vp_lit rfl) ?_
    exact g_sub [0, 2] _ rfl (h3 c1)
  · skip
    refine g_lconst (0) 60 dX9_goesAlong_59 rfl rfl ?_
    refine g_goto 68 dX9_goesAlong_60 rfl ?_
    refine h_lastore 69 0 dX9_goesAlong_68 rfl rfl (Sm.k (Sm.wi (Sm.wi (Sm.wi (Sm.wi (Sm.wi (Sm.wi Sm.rf)))))) s0.2.2.2.2.2.2.2.2.2.2.2.2.2.2.2.2.2.2.2.2.2.2.2.2.2.2.2.2.2.2.2.2.2.2.2.2.2.2.2.2.2.2.2.2.1) (vp_lit rfl) ?_
    exact g_sub [0, 2] _ rfl (h4 c1)

set_option maxRecDepth 4000 in
theorem sX9_goesAlong_69 {K : Nat} {X : gX} {d mc ms : Nat} {Q : Option Value → gM → Prop} {M : gM} {c z : Nat} {a0 : Nat} {x2 : Int32} (s0 : Mo M a0) (h1 : (¬ (g_mi M a0 24) = 0) → Go X (d + K + 7) mc ms kX9_goesAlong Q 85 [(0, .ref a0), (2, .int (x2))] [] (g_wi M a0 44 0) c z) (h2 : ((g_mi M a0 24) = 0) → Go X (d + K + 7) mc ms kX9_goesAlong Q 85 [(0, .ref a0), (2, .int (x2))] [] (g_wi M a0 44 1) c z) : Go X (d + K + 7) mc ms kX9_goesAlong Q 69 [(0, .ref a0), (2, .int (x2))] [] M c z := by
  refine g_aload_n 0 70 dX9_goesAlong_69 rfl rfl ?_
  refine g_aload_n 0 71 dX9_goesAlong_70 rfl rfl ?_
  refine g_getI 74 dX9_goesAlong_71 rfl flX9_279 s0.1 ?_
  refine g_if_ne 81 77 dX9_goesAlong_74 rfl rfl (fun c1 => ?_) (fun c1 => ?_)
  · skip
    refine g_iconst (0) 82 dX9_goesAlong_81 rfl rfl ?_
    refine g_putZ 85 dX9_goesAlong_82 rfl flX9_452 s0.1 (by decide) ?_
    exact (h1 c1)
  · skip
    refine g_iconst (1) 78 dX9_goesAlong_77 rfl rfl ?_
    refine g_goto 82 dX9_goesAlong_78 rfl ?_
    refine g_putZ 85 dX9_goesAlong_82 rfl flX9_452 s0.1 (by decide) ?_
    exact (h2 c1)

set_option maxRecDepth 4000 in
theorem sX9_goesAlong_85 {K : Nat} {X : gX} {d mc ms : Nat} {Q : Option Value → gM → Prop} {M : gM} {c z : Nat} {a0 : Nat} {x2 : Int32} (s0 : Mo M a0) (w1 : c ≤ mc) (w2 : z ≤ ms) (b3 : EX9_passes0 (g_wi M a0 42 1) a0 22) (h4 : ((fX9_passes0 (g_wi M a0 42 1) a0 22) = 0) → Go X (d + K + 7) mc ms kX9_goesAlong Q 126 [(0, .ref a0), (2, .int (x2))] [] (mX9_passes0 (g_wi M a0 42 1) a0 22) c z) (b5 : (¬ (fX9_passes0 (g_wi M a0 42 1) a0 22) = 0) → vp_in ((3012 + (g_mi (mX9_passes0 (g_wi M a0 42 1) a0 22) a0 22))) 5812) (h6 : (¬ (fX9_passes0 (g_wi M a0 42 1) a0 22) = 0) → Go X (d + K + 7) mc ms kX9_goesAlong Q 126 [(0, .ref a0), (2, .int (x2))] [] (g_wi (g_wi (mX9_passes0 (g_wi M a0 42 1) a0 22) a0 42 (g_mi (mX9_passes0 (g_wi M a0 42 1) a0 22) (a0 + 2) ((3012 + (g_mi (mX9_passes0 (g_wi M a0 42 1) a0 22) a0 22))).toNatClampNeg)) a0 22 ((g_mi (g_wi (mX9_passes0 (g_wi M a0 42 1) a0 22) a0 42 (g_mi (mX9_passes0 (g_wi M a0 42 1) a0 22) (a0 + 2) ((3012 + (g_mi (mX9_passes0 (g_wi M a0 42 1) a0 22) a0 22))).toNatClampNeg)) a0 22) + 1)) c z) : Go X (d + K + 7) mc ms kX9_goesAlong Q 85 [(0, .ref a0), (2, .int (x2))] [] M c z := by
  refine g_aload_n 0 86 dX9_goesAlong_85 rfl rfl ?_
  refine g_iconst (1) 87 dX9_goesAlong_86 rfl rfl ?_
  refine g_putI 90 dX9_goesAlong_87 rfl flX9_455 s0.1 ?_
  refine g_aload_n 0 91 dX9_goesAlong_90 rfl rfl ?_
  refine g_bipush (22) 93 dX9_goesAlong_91 rfl rfl ?_
  refine g_callV (mc1 := 0) (ms1 := 0) (b := a0) (rest := []) (av := [.int (22)]) kX9_passes0 96 dX9_goesAlong_93 rfl rfl mbX9_293 imX9_passes0 seX9_passes0 gcl9.1 (Sm.k (Sm.wi Sm.rf) s0.1) (Nat.le_of_ble_eq_true rfl) (w1) (w2) (tX9_passes0 (Mo.sm (Sm.wi Sm.rf) s0) (b3) ?_)
  show Go X (d + K + 7) mc ms kX9_goesAlong Q 96 [(0, .ref a0), (2, .int (x2))] [.int ((fX9_passes0 (g_wi M a0 42 1) a0 22))] (mX9_passes0 (g_wi M a0 42 1) a0 22) c z
  refine g_if_eq 126 99 dX9_goesAlong_96 rfl rfl (fun c1 => ?_) (fun c1 => ?_)
  · skip
    exact (h4 c1)
  · skip
    refine g_aload_n 0 100 dX9_goesAlong_99 rfl rfl ?_
    refine g_aload_n 0 101 dX9_goesAlong_100 rfl rfl ?_
    refine g_getR 104 (a0 + 2) dX9_goesAlong_101 rfl flX9_28 (Sm.k (Sm.tr (Sm.wi Sm.rf) jX9_passes0) s0.1) (Sm.r (Sm.tr (Sm.wi Sm.rf) jX9_passes0) s0.2.2.2.1) ?_
    refine g_sipush (3012) 107 dX9_goesAlong_104 rfl rfl ?_
    refine g_aload_n 0 108 dX9_goesAlong_107 rfl rfl ?_
    refine g_getI 111 dX9_goesAlong_108 rfl flX9_269 (Sm.k (Sm.tr (Sm.wi Sm.rf) jX9_passes0) s0.1) ?_
    refine g_iadd 112 dX9_goesAlong_111 rfl ?_
    refine h_iaload 113 ((3012 + (g_mi (mX9_passes0 (g_wi M a0 42 1) a0 22) a0 22))).toNatClampNeg dX9_goesAlong_112 rfl rfl (Sm.k (Sm.tr (Sm.wi Sm.rf) jX9_passes0) s0.2.2.2.2.1) (b5 c1) ?_
    refine g_putI 116 dX9_goesAlong_113 rfl flX9_455 (Sm.k (Sm.tr (Sm.wi Sm.rf) jX9_passes0) s0.1) ?_
    refine g_aload_n 0 117 dX9_goesAlong_116 rfl rfl ?_
    refine g_dup 118 dX9_goesAlong_117 rfl rfl ?_
    refine g_getI 121 dX9_goesAlong_118 rfl flX9_269 (Sm.k (Sm.wi (Sm.tr (Sm.wi Sm.rf) jX9_passes0)) s0.1) ?_
    refine g_iconst (1) 122 dX9_goesAlong_121 rfl rfl ?_
    refine g_iadd 123 dX9_goesAlong_122 rfl ?_
    refine g_putI 126 dX9_goesAlong_123 rfl flX9_269 (Sm.k (Sm.wi (Sm.tr (Sm.wi Sm.rf) jX9_passes0)) s0.1) ?_
    exact (h6 c1)

set_option maxRecDepth 4000 in
theorem sX9_goesAlong_126 {N : Nat} {K : Nat} {X : gX} {d mc ms : Nat} {Q : Option Value → gM → Prop} {M : gM} {c z : Nat} {a0 : Nat} {x2 : Int32} (s0 : Mo M a0) (w1 : c ≤ mc) (w2 : z ≤ ms) (b3 : EX9_passes0 (g_wi M a0 24 0) a0 3) (h4 : ((fX9_passes0 (g_wi M a0 24 0) a0 3) = 0) → Go X (d + K + 7) mc ms kX9_goesAlong Q 156 [(0, .ref a0)] [] (g_wi (mX9_passes0 (g_wi M a0 24 0) a0 3) a0 45 1) c z) (b5 : (¬ (fX9_passes0 (g_wi M a0 24 0) a0 3) = 0) → EX9_testOf N K (mX9_passes0 (g_wi M a0 24 0) a0 3) a0 x2) (h6 : (¬ (fX9_passes0 (g_wi M a0 24 0) a0 3) = 0) → ((fX9_testOf N K (mX9_passes0 (g_wi M a0 24 0) a0 3) a0 x2) = 0) → Go X (d + K + 7) mc ms kX9_goesAlong Q 156 [(0, .ref a0)] [] (g_wi (mX9_testOf N K (mX9_passes0 (g_wi M a0 24 0) a0 3) a0 x2) a0 45 0) c z) (h7 : (¬ (fX9_passes0 (g_wi M a0 24 0) a0 3) = 0) → (¬ (fX9_testOf N K (mX9_passes0 (g_wi M a0 24 0) a0 3) a0 x2) = 0) → Go X (d + K + 7) mc ms kX9_goesAlong Q 156 [(0, .ref a0)] [] (g_wi (mX9_testOf N K (mX9_passes0 (g_wi M a0 24 0) a0 3) a0 x2) a0 45 1) c z) : Go X (d + K + 7) mc ms kX9_goesAlong Q 126 [(0, .ref a0), (2, .int (x2))] [] M c z := by
  refine g_aload_n 0 127 dX9_goesAlong_126 rfl rfl ?_
  refine g_iconst (0) 128 dX9_goesAlong_127 rfl rfl ?_
  refine g_putZ 131 dX9_goesAlong_128 rfl flX9_279 s0.1 (by decide) ?_
  refine g_aload_n 0 132 dX9_goesAlong_131 rfl rfl ?_
  refine g_aload_n 0 133 dX9_goesAlong_132 rfl rfl ?_
  refine g_iconst (3) 134 dX9_goesAlong_133 rfl rfl ?_
  refine g_callV (mc1 := 0) (ms1 := 0) (b := a0) (rest := [.ref a0]) (av := [.int (3)]) kX9_passes0 137 dX9_goesAlong_134 rfl rfl mbX9_293 imX9_passes0 seX9_passes0 gcl9.1 (Sm.k (Sm.wi Sm.rf) s0.1) (Nat.le_of_ble_eq_true rfl) (w1) (w2) (tX9_passes0 (Mo.sm (Sm.wi Sm.rf) s0) (b3) ?_)
  show Go X (d + K + 7) mc ms kX9_goesAlong Q 137 [(0, .ref a0), (2, .int (x2))] [.int ((fX9_passes0 (g_wi M a0 24 0) a0 3)), .ref a0] (mX9_passes0 (g_wi M a0 24 0) a0 3) c z
  refine g_if_eq 148 140 dX9_goesAlong_137 rfl rfl (fun c1 => ?_) (fun c1 => ?_)
  · skip
    refine g_iconst (1) 149 dX9_goesAlong_148 rfl rfl ?_
    refine g_goto 153 dX9_goesAlong_149 rfl ?_
    refine g_putZ 156 dX9_goesAlong_153 rfl flX9_458 (Sm.k (Sm.tr (Sm.wi Sm.rf) jX9_passes0) s0.1) (by decide) ?_
    exact g_sub [0] _ rfl (h4 c1)
  · skip
    refine g_aload_n 0 141 dX9_goesAlong_140 rfl rfl ?_
    refine g_iload_n 1 142 dX9_goesAlong_141 rfl rfl ?_
    refine g_callV (mc1 := 0) (ms1 := 0) (b := a0) (rest := [.ref a0]) (av := [.int (x2)]) kX9_testOf 145 dX9_goesAlong_142 rfl rfl mbX9_323 imX9_testOf seX9_testOf gcl9.1 (Sm.k (Sm.tr (Sm.wi Sm.rf) jX9_passes0) s0.1) (Nat.le_of_ble_eq_true rfl) (w1) (w2) (tX9_testOf (N := N) (K := K) (Mo.sm (Sm.tr (Sm.wi Sm.rf) jX9_passes0) s0) (b5 c1) ?_)
    show Go X (d + K + 7) mc ms kX9_goesAlong Q 145 [(0, .ref a0), (2, .int (x2))] [.int ((fX9_testOf N K (mX9_passes0 (g_wi M a0 24 0) a0 3) a0 x2)), .ref a0] (mX9_testOf N K (mX9_passes0 (g_wi M a0 24 0) a0 3) a0 x2) c z
    refine g_if_eq 152 148 dX9_goesAlong_145 rfl rfl (fun c2 => ?_) (fun c2 => ?_)
    · skip
      refine g_iconst (0) 153 dX9_goesAlong_152 rfl rfl ?_
      refine g_putZ 156 dX9_goesAlong_153 rfl flX9_458 (Sm.k (Sm.tr (Sm.tr (Sm.wi Sm.rf) jX9_passes0) jX9_testOf) s0.1) (by decide) ?_
      exact g_sub [0] _ rfl (h6 c1 c2)
    · skip
      refine g_iconst (1) 149 dX9_goesAlong_148 rfl rfl ?_
      refine g_goto 153 dX9_goesAlong_149 rfl ?_
      refine g_putZ 156 dX9_goesAlong_153 rfl flX9_458 (Sm.k (Sm.tr (Sm.tr (Sm.wi Sm.rf) jX9_passes0) jX9_testOf) s0.1) (by decide) ?_
      exact g_sub [0] _ rfl (h7 c1 c2)

set_option maxRecDepth 4000 in
theorem sX9_goesAlong_156 {K : Nat} {X : gX} {d mc ms : Nat} {Q : Option Value → gM → Prop} {M : gM} {c z : Nat} {a0 : Nat} (s0 : Mo M a0) (h1 : ((g_mi M a0 45) = 0) → Go X (d + K + 7) mc ms kX9_goesAlong Q 179 [(0, .ref a0)] [] (g_wi M a0 45 0) c z) (h2 : (¬ (g_mi M a0 45) = 0) → (¬ (g_mi M a0 24) = 0) → Go X (d + K + 7) mc ms kX9_goesAlong Q 179 [(0, .ref a0)] [] (g_wi M a0 45 0) c z) (h3 : (¬ (g_mi M a0 45) = 0) → ((g_mi M a0 24) = 0) → Go X (d + K + 7) mc ms kX9_goesAlong Q 179 [(0, .ref a0)] [] (g_wi M a0 45 1) c z) : Go X (d + K + 7) mc ms kX9_goesAlong Q 156 [(0, .ref a0)] [] M c z := by
  refine g_aload_n 0 157 dX9_goesAlong_156 rfl rfl ?_
  refine g_aload_n 0 158 dX9_goesAlong_157 rfl rfl ?_
  refine g_getI 161 dX9_goesAlong_158 rfl flX9_458 s0.1 ?_
  refine g_if_eq 175 164 dX9_goesAlong_161 rfl rfl (fun c1 => ?_) (fun c1 => ?_)
  · skip
    refine g_iconst (0) 176 dX9_goesAlong_175 rfl rfl ?_
    refine g_putZ 179 dX9_goesAlong_176 rfl flX9_458 s0.1 (by decide) ?_
    exact (h1 c1)
  · skip
    refine g_aload_n 0 165 dX9_goesAlong_164 rfl rfl ?_
    refine g_getI 168 dX9_goesAlong_165 rfl flX9_279 s0.1 ?_
    refine g_if_ne 175 171 dX9_goesAlong_168 rfl rfl (fun c2 => ?_) (fun c2 => ?_)
    · skip
      refine g_iconst (0) 176 dX9_goesAlong_175 rfl rfl ?_
      refine g_putZ 179 dX9_goesAlong_176 rfl flX9_458 s0.1 (by decide) ?_
      exact (h2 c1 c2)
    · skip
      refine g_iconst (1) 172 dX9_goesAlong_171 rfl rfl ?_
      refine g_goto 176 dX9_goesAlong_172 rfl ?_
      refine g_putZ 179 dX9_goesAlong_176 rfl flX9_458 s0.1 (by decide) ?_
      exact (h3 c1 c2)

set_option maxRecDepth 4000 in
theorem sX9_goesAlong_179 {K : Nat} {X : gX} {d mc ms : Nat} {Q : Option Value → gM → Prop} {M : gM} {c z : Nat} {a0 : Nat} (s0 : Mo M a0) (h1 : Q none (g_wi M a0 22 ((g_mi M a0 22) + 1))) (w2 : c ≤ mc) (w3 : z ≤ ms) : Go X (d + K + 7) mc ms kX9_goesAlong Q 179 [(0, .ref a0)] [] M c z := by
  refine g_aload_n 0 180 dX9_goesAlong_179 rfl rfl ?_
  refine g_dup 181 dX9_goesAlong_180 rfl rfl ?_
  refine g_getI 184 dX9_goesAlong_181 rfl flX9_269 s0.1 ?_
  refine g_iconst (1) 185 dX9_goesAlong_184 rfl rfl ?_
  refine g_iadd 186 dX9_goesAlong_185 rfl ?_
  refine g_putI 189 dX9_goesAlong_186 rfl flX9_269 s0.1 ?_
  exact g_vret dX9_goesAlong_189 rfl (w2) (w3) (h1)

def bX9_goesAlong_0 (N : Nat) (K : Nat) (M : gM) (a0 : Nat) (x1 : Int32) (x2 : Int32) (k : Nat → (Nat → Nat → Int32) → (Nat → Nat → Int64) → Nat → Int32 → Int32 × (Nat → Nat → Int32) × (Nat → Nat → Int64)) : Int32 × (Nat → Nat → Int32) × (Nat → Nat → Int64) := (if (g_mi (g_wi (g_wi (g_wi (g_wi (g_wi (g_wi M a0 25 1) a0 23 x1) a0 22 (g_mi (g_wi (g_wi M a0 25 1) a0 23 x1) a0 41)) a0 43 (fX9_codeAt (g_wi (g_wi (g_wi M a0 25 1) a0 23 x1) a0 22 (g_mi (g_wi (g_wi M a0 25 1) a0 23 x1) a0 41)) a0 (g_mi (g_wi (g_wi (g_wi M a0 25 1) a0 23 x1) a0 22 (g_mi (g_wi (g_wi M a0 25 1) a0 23 x1) a0 41)) a0 22))) a0 22 ((g_mi (g_wi (g_wi (g_wi (g_wi M a0 25 1) a0 23 x1) a0 22 (g_mi (g_wi (g_wi M a0 25 1) a0 23 x1) a0 41)) a0 43 (fX9_codeAt (g_wi (g_wi (g_wi M a0 25 1) a0 23 x1) a0 22 (g_mi (g_wi (g_wi M a0 25 1) a0 23 x1) a0 41)) a0 (g_mi (g_wi (g_wi (g_wi M a0 25 1) a0 23 x1) a0 22 (g_mi (g_wi (g_wi M a0 25 1) a0 23 x1) a0 41)) a0 22))) a0 22) + 1)) a0 24 0) a0 43) = 21 then (k 0 (g_mi (g_wl (g_wi (g_wi (g_wi (g_wi (g_wi (g_wi M a0 25 1) a0 23 x1) a0 22 (g_mi (g_wi (g_wi M a0 25 1) a0 23 x1) a0 41)) a0 43 (fX9_codeAt (g_wi (g_wi (g_wi M a0 25 1) a0 23 x1) a0 22 (g_mi (g_wi (g_wi M a0 25 1) a0 23 x1) a0 41)) a0 (g_mi (g_wi (g_wi (g_wi M a0 25 1) a0 23 x1) a0 22 (g_mi (g_wi (g_wi M a0 25 1) a0 23 x1) a0 41)) a0 22))) a0 22 ((g_mi (g_wi (g_wi (g_wi (g_wi M a0 25 1) a0 23 x1) a0 22 (g_mi (g_wi (g_wi M a0 25 1) a0 23 x1) a0 41)) a0 43 (fX9_codeAt (g_wi (g_wi (g_wi M a0 25 1) a0 23 x1) a0 22 (g_mi (g_wi (g_wi M a0 25 1) a0 23 x1) a0 41)) a0 (g_mi (g_wi (g_wi (g_wi M a0 25 1) a0 23 x1) a0 22 (g_mi (g_wi (g_wi M a0 25 1) a0 23 x1) a0 41)) a0 22))) a0 22) + 1)) a0 24 0) (a0 + 22) 0 0)) (g_ml (g_wl (g_wi (g_wi (g_wi (g_wi (g_wi (g_wi M a0 25 1) a0 23 x1) a0 22 (g_mi (g_wi (g_wi M a0 25 1) a0 23 x1) a0 41)) a0 43 (fX9_codeAt (g_wi (g_wi (g_wi M a0 25 1) a0 23 x1) a0 22 (g_mi (g_wi (g_wi M a0 25 1) a0 23 x1) a0 41)) a0 (g_mi (g_wi (g_wi (g_wi M a0 25 1) a0 23 x1) a0 22 (g_mi (g_wi (g_wi M a0 25 1) a0 23 x1) a0 41)) a0 22))) a0 22 ((g_mi (g_wi (g_wi (g_wi (g_wi M a0 25 1) a0 23 x1) a0 22 (g_mi (g_wi (g_wi M a0 25 1) a0 23 x1) a0 41)) a0 43 (fX9_codeAt (g_wi (g_wi (g_wi M a0 25 1) a0 23 x1) a0 22 (g_mi (g_wi (g_wi M a0 25 1) a0 23 x1) a0 41)) a0 (g_mi (g_wi (g_wi (g_wi M a0 25 1) a0 23 x1) a0 22 (g_mi (g_wi (g_wi M a0 25 1) a0 23 x1) a0 41)) a0 22))) a0 22) + 1)) a0 24 0) (a0 + 22) 0 0)) a0 x2) else (k 0 (g_mi (g_wl (mX9_sumOf N K (g_wi (g_wi (g_wi (g_wi (g_wi (g_wi M a0 25 1) a0 23 x1) a0 22 (g_mi (g_wi (g_wi M a0 25 1) a0 23 x1) a0 41)) a0 43 (fX9_codeAt (g_wi (g_wi (g_wi M a0 25 1) a0 23 x1) a0 22 (g_mi (g_wi (g_wi M a0 25 1) a0 23 x1) a0 41)) a0 (g_mi (g_wi (g_wi (g_wi M a0 25 1) a0 23 x1) a0 22 (g_mi (g_wi (g_wi M a0 25 1) a0 23 x1) a0 41)) a0 22))) a0 22 ((g_mi (g_wi (g_wi (g_wi (g_wi M a0 25 1) a0 23 x1) a0 22 (g_mi (g_wi (g_wi M a0 25 1) a0 23 x1) a0 41)) a0 43 (fX9_codeAt (g_wi (g_wi (g_wi M a0 25 1) a0 23 x1) a0 22 (g_mi (g_wi (g_wi M a0 25 1) a0 23 x1) a0 41)) a0 (g_mi (g_wi (g_wi (g_wi M a0 25 1) a0 23 x1) a0 22 (g_mi (g_wi (g_wi M a0 25 1) a0 23 x1) a0 41)) a0 22))) a0 22) + 1)) a0 24 0) a0 x2) (a0 + 22) 0 (fX9_sumOf N K (g_wi (g_wi (g_wi (g_wi (g_wi (g_wi M a0 25 1) a0 23 x1) a0 22 (g_mi (g_wi (g_wi M a0 25 1) a0 23 x1) a0 41)) a0 43 (fX9_codeAt (g_wi (g_wi (g_wi M a0 25 1) a0 23 x1) a0 22 (g_mi (g_wi (g_wi M a0 25 1) a0 23 x1) a0 41)) a0 (g_mi (g_wi (g_wi (g_wi M a0 25 1) a0 23 x1) a0 22 (g_mi (g_wi (g_wi M a0 25 1) a0 23 x1) a0 41)) a0 22))) a0 22 ((g_mi (g_wi (g_wi (g_wi (g_wi M a0 25 1) a0 23 x1) a0 22 (g_mi (g_wi (g_wi M a0 25 1) a0 23 x1) a0 41)) a0 43 (fX9_codeAt (g_wi (g_wi (g_wi M a0 25 1) a0 23 x1) a0 22 (g_mi (g_wi (g_wi M a0 25 1) a0 23 x1) a0 41)) a0 (g_mi (g_wi (g_wi (g_wi M a0 25 1) a0 23 x1) a0 22 (g_mi (g_wi (g_wi M a0 25 1) a0 23 x1) a0 41)) a0 22))) a0 22) + 1)) a0 24 0) a0 x2))) (g_ml (g_wl (mX9_sumOf N K (g_wi (g_wi (g_wi (g_wi (g_wi (g_wi M a0 25 1) a0 23 x1) a0 22 (g_mi (g_wi (g_wi M a0 25 1) a0 23 x1) a0 41)) a0 43 (fX9_codeAt (g_wi (g_wi (g_wi M a0 25 1) a0 23 x1) a0 22 (g_mi (g_wi (g_wi M a0 25 1) a0 23 x1) a0 41)) a0 (g_mi (g_wi (g_wi (g_wi M a0 25 1) a0 23 x1) a0 22 (g_mi (g_wi (g_wi M a0 25 1) a0 23 x1) a0 41)) a0 22))) a0 22 ((g_mi (g_wi (g_wi (g_wi (g_wi M a0 25 1) a0 23 x1) a0 22 (g_mi (g_wi (g_wi M a0 25 1) a0 23 x1) a0 41)) a0 43 (fX9_codeAt (g_wi (g_wi (g_wi M a0 25 1) a0 23 x1) a0 22 (g_mi (g_wi (g_wi M a0 25 1) a0 23 x1) a0 41)) a0 (g_mi (g_wi (g_wi (g_wi M a0 25 1) a0 23 x1) a0 22 (g_mi (g_wi (g_wi M a0 25 1) a0 23 x1) a0 41)) a0 22))) a0 22) + 1)) a0 24 0) a0 x2) (a0 + 22) 0 (fX9_sumOf N K (g_wi (g_wi (g_wi (g_wi (g_wi (g_wi M a0 25 1) a0 23 x1) a0 22 (g_mi (g_wi (g_wi M a0 25 1) a0 23 x1) a0 41)) a0 43 (fX9_codeAt (g_wi (g_wi (g_wi M a0 25 1) a0 23 x1) a0 22 (g_mi (g_wi (g_wi M a0 25 1) a0 23 x1) a0 41)) a0 (g_mi (g_wi (g_wi (g_wi M a0 25 1) a0 23 x1) a0 22 (g_mi (g_wi (g_wi M a0 25 1) a0 23 x1) a0 41)) a0 22))) a0 22 ((g_mi (g_wi (g_wi (g_wi (g_wi M a0 25 1) a0 23 x1) a0 22 (g_mi (g_wi (g_wi M a0 25 1) a0 23 x1) a0 41)) a0 43 (fX9_codeAt (g_wi (g_wi (g_wi M a0 25 1) a0 23 x1) a0 22 (g_mi (g_wi (g_wi M a0 25 1) a0 23 x1) a0 41)) a0 (g_mi (g_wi (g_wi (g_wi M a0 25 1) a0 23 x1) a0 22 (g_mi (g_wi (g_wi M a0 25 1) a0 23 x1) a0 41)) a0 22))) a0 22) + 1)) a0 24 0) a0 x2))) a0 x2))
def eX9_goesAlong_0 (N : Nat) (K : Nat) (M : gM) (a0 : Nat) (x1 : Int32) (x2 : Int32) (k : Nat → (Nat → Nat → Int32) → (Nat → Nat → Int64) → Nat → Int32 → Prop) : Prop := (EX9_codeAt (g_wi (g_wi (g_wi M a0 25 1) a0 23 x1) a0 22 (g_mi (g_wi (g_wi M a0 25 1) a0 23 x1) a0 41)) a0 (g_mi (g_wi (g_wi (g_wi M a0 25 1) a0 23 x1) a0 22 (g_mi (g_wi (g_wi M a0 25 1) a0 23 x1) a0 41)) a0 22)) ∧ ((¬ (g_mi (g_wi (g_wi (g_wi (g_wi (g_wi (g_wi M a0 25 1) a0 23 x1) a0 22 (g_mi (g_wi (g_wi M a0 25 1) a0 23 x1) a0 41)) a0 43 (fX9_codeAt (g_wi (g_wi (g_wi M a0 25 1) a0 23 x1) a0 22 (g_mi (g_wi (g_wi M a0 25 1) a0 23 x1) a0 41)) a0 (g_mi (g_wi (g_wi (g_wi M a0 25 1) a0 23 x1) a0 22 (g_mi (g_wi (g_wi M a0 25 1) a0 23 x1) a0 41)) a0 22))) a0 22 ((g_mi (g_wi (g_wi (g_wi (g_wi M a0 25 1) a0 23 x1) a0 22 (g_mi (g_wi (g_wi M a0 25 1) a0 23 x1) a0 41)) a0 43 (fX9_codeAt (g_wi (g_wi (g_wi M a0 25 1) a0 23 x1) a0 22 (g_mi (g_wi (g_wi M a0 25 1) a0 23 x1) a0 41)) a0 (g_mi (g_wi (g_wi (g_wi M a0 25 1) a0 23 x1) a0 22 (g_mi (g_wi (g_wi M a0 25 1) a0 23 x1) a0 41)) a0 22))) a0 22) + 1)) a0 24 0) a0 43) = 21) → EX9_sumOf N K (g_wi (g_wi (g_wi (g_wi (g_wi (g_wi M a0 25 1) a0 23 x1) a0 22 (g_mi (g_wi (g_wi M a0 25 1) a0 23 x1) a0 41)) a0 43 (fX9_codeAt (g_wi (g_wi (g_wi M a0 25 1) a0 23 x1) a0 22 (g_mi (g_wi (g_wi M a0 25 1) a0 23 x1) a0 41)) a0 (g_mi (g_wi (g_wi (g_wi M a0 25 1) a0 23 x1) a0 22 (g_mi (g_wi (g_wi M a0 25 1) a0 23 x1) a0 41)) a0 22))) a0 22 ((g_mi (g_wi (g_wi (g_wi (g_wi M a0 25 1) a0 23 x1) a0 22 (g_mi (g_wi (g_wi M a0 25 1) a0 23 x1) a0 41)) a0 43 (fX9_codeAt (g_wi (g_wi (g_wi M a0 25 1) a0 23 x1) a0 22 (g_mi (g_wi (g_wi M a0 25 1) a0 23 x1) a0 41)) a0 (g_mi (g_wi (g_wi (g_wi M a0 25 1) a0 23 x1) a0 22 (g_mi (g_wi (g_wi M a0 25 1) a0 23 x1) a0 41)) a0 22))) a0 22) + 1)) a0 24 0) a0 x2) ∧ (if (g_mi (g_wi (g_wi (g_wi (g_wi (g_wi (g_wi M a0 25 1) a0 23 x1) a0 22 (g_mi (g_wi (g_wi M a0 25 1) a0 23 x1) a0 41)) a0 43 (fX9_codeAt (g_wi (g_wi (g_wi M a0 25 1) a0 23 x1) a0 22 (g_mi (g_wi (g_wi M a0 25 1) a0 23 x1) a0 41)) a0 (g_mi (g_wi (g_wi (g_wi M a0 25 1) a0 23 x1) a0 22 (g_mi (g_wi (g_wi M a0 25 1) a0 23 x1) a0 41)) a0 22))) a0 22 ((g_mi (g_wi (g_wi (g_wi (g_wi M a0 25 1) a0 23 x1) a0 22 (g_mi (g_wi (g_wi M a0 25 1) a0 23 x1) a0 41)) a0 43 (fX9_codeAt (g_wi (g_wi (g_wi M a0 25 1) a0 23 x1) a0 22 (g_mi (g_wi (g_wi M a0 25 1) a0 23 x1) a0 41)) a0 (g_mi (g_wi (g_wi (g_wi M a0 25 1) a0 23 x1) a0 22 (g_mi (g_wi (g_wi M a0 25 1) a0 23 x1) a0 41)) a0 22))) a0 22) + 1)) a0 24 0) a0 43) = 21 then (k 0 (g_mi (g_wl (g_wi (g_wi (g_wi (g_wi (g_wi (g_wi M a0 25 1) a0 23 x1) a0 22 (g_mi (g_wi (g_wi M a0 25 1) a0 23 x1) a0 41)) a0 43 (fX9_codeAt (g_wi (g_wi (g_wi M a0 25 1) a0 23 x1) a0 22 (g_mi (g_wi (g_wi M a0 25 1) a0 23 x1) a0 41)) a0 (g_mi (g_wi (g_wi (g_wi M a0 25 1) a0 23 x1) a0 22 (g_mi (g_wi (g_wi M a0 25 1) a0 23 x1) a0 41)) a0 22))) a0 22 ((g_mi (g_wi (g_wi (g_wi (g_wi M a0 25 1) a0 23 x1) a0 22 (g_mi (g_wi (g_wi M a0 25 1) a0 23 x1) a0 41)) a0 43 (fX9_codeAt (g_wi (g_wi (g_wi M a0 25 1) a0 23 x1) a0 22 (g_mi (g_wi (g_wi M a0 25 1) a0 23 x1) a0 41)) a0 (g_mi (g_wi (g_wi (g_wi M a0 25 1) a0 23 x1) a0 22 (g_mi (g_wi (g_wi M a0 25 1) a0 23 x1) a0 41)) a0 22))) a0 22) + 1)) a0 24 0) (a0 + 22) 0 0)) (g_ml (g_wl (g_wi (g_wi (g_wi (g_wi (g_wi (g_wi M a0 25 1) a0 23 x1) a0 22 (g_mi (g_wi (g_wi M a0 25 1) a0 23 x1) a0 41)) a0 43 (fX9_codeAt (g_wi (g_wi (g_wi M a0 25 1) a0 23 x1) a0 22 (g_mi (g_wi (g_wi M a0 25 1) a0 23 x1) a0 41)) a0 (g_mi (g_wi (g_wi (g_wi M a0 25 1) a0 23 x1) a0 22 (g_mi (g_wi (g_wi M a0 25 1) a0 23 x1) a0 41)) a0 22))) a0 22 ((g_mi (g_wi (g_wi (g_wi (g_wi M a0 25 1) a0 23 x1) a0 22 (g_mi (g_wi (g_wi M a0 25 1) a0 23 x1) a0 41)) a0 43 (fX9_codeAt (g_wi (g_wi (g_wi M a0 25 1) a0 23 x1) a0 22 (g_mi (g_wi (g_wi M a0 25 1) a0 23 x1) a0 41)) a0 (g_mi (g_wi (g_wi (g_wi M a0 25 1) a0 23 x1) a0 22 (g_mi (g_wi (g_wi M a0 25 1) a0 23 x1) a0 41)) a0 22))) a0 22) + 1)) a0 24 0) (a0 + 22) 0 0)) a0 x2) else (k 0 (g_mi (g_wl (mX9_sumOf N K (g_wi (g_wi (g_wi (g_wi (g_wi (g_wi M a0 25 1) a0 23 x1) a0 22 (g_mi (g_wi (g_wi M a0 25 1) a0 23 x1) a0 41)) a0 43 (fX9_codeAt (g_wi (g_wi (g_wi M a0 25 1) a0 23 x1) a0 22 (g_mi (g_wi (g_wi M a0 25 1) a0 23 x1) a0 41)) a0 (g_mi (g_wi (g_wi (g_wi M a0 25 1) a0 23 x1) a0 22 (g_mi (g_wi (g_wi M a0 25 1) a0 23 x1) a0 41)) a0 22))) a0 22 ((g_mi (g_wi (g_wi (g_wi (g_wi M a0 25 1) a0 23 x1) a0 22 (g_mi (g_wi (g_wi M a0 25 1) a0 23 x1) a0 41)) a0 43 (fX9_codeAt (g_wi (g_wi (g_wi M a0 25 1) a0 23 x1) a0 22 (g_mi (g_wi (g_wi M a0 25 1) a0 23 x1) a0 41)) a0 (g_mi (g_wi (g_wi (g_wi M a0 25 1) a0 23 x1) a0 22 (g_mi (g_wi (g_wi M a0 25 1) a0 23 x1) a0 41)) a0 22))) a0 22) + 1)) a0 24 0) a0 x2) (a0 + 22) 0 (fX9_sumOf N K (g_wi (g_wi (g_wi (g_wi (g_wi (g_wi M a0 25 1) a0 23 x1) a0 22 (g_mi (g_wi (g_wi M a0 25 1) a0 23 x1) a0 41)) a0 43 (fX9_codeAt (g_wi (g_wi (g_wi M a0 25 1) a0 23 x1) a0 22 (g_mi (g_wi (g_wi M a0 25 1) a0 23 x1) a0 41)) a0 (g_mi (g_wi (g_wi (g_wi M a0 25 1) a0 23 x1) a0 22 (g_mi (g_wi (g_wi M a0 25 1) a0 23 x1) a0 41)) a0 22))) a0 22 ((g_mi (g_wi (g_wi (g_wi (g_wi M a0 25 1) a0 23 x1) a0 22 (g_mi (g_wi (g_wi M a0 25 1) a0 23 x1) a0 41)) a0 43 (fX9_codeAt (g_wi (g_wi (g_wi M a0 25 1) a0 23 x1) a0 22 (g_mi (g_wi (g_wi M a0 25 1) a0 23 x1) a0 41)) a0 (g_mi (g_wi (g_wi (g_wi M a0 25 1) a0 23 x1) a0 22 (g_mi (g_wi (g_wi M a0 25 1) a0 23 x1) a0 41)) a0 22))) a0 22) + 1)) a0 24 0) a0 x2))) (g_ml (g_wl (mX9_sumOf N K (g_wi (g_wi (g_wi (g_wi (g_wi (g_wi M a0 25 1) a0 23 x1) a0 22 (g_mi (g_wi (g_wi M a0 25 1) a0 23 x1) a0 41)) a0 43 (fX9_codeAt (g_wi (g_wi (g_wi M a0 25 1) a0 23 x1) a0 22 (g_mi (g_wi (g_wi M a0 25 1) a0 23 x1) a0 41)) a0 (g_mi (g_wi (g_wi (g_wi M a0 25 1) a0 23 x1) a0 22 (g_mi (g_wi (g_wi M a0 25 1) a0 23 x1) a0 41)) a0 22))) a0 22 ((g_mi (g_wi (g_wi (g_wi (g_wi M a0 25 1) a0 23 x1) a0 22 (g_mi (g_wi (g_wi M a0 25 1) a0 23 x1) a0 41)) a0 43 (fX9_codeAt (g_wi (g_wi (g_wi M a0 25 1) a0 23 x1) a0 22 (g_mi (g_wi (g_wi M a0 25 1) a0 23 x1) a0 41)) a0 (g_mi (g_wi (g_wi (g_wi M a0 25 1) a0 23 x1) a0 22 (g_mi (g_wi (g_wi M a0 25 1) a0 23 x1) a0 41)) a0 22))) a0 22) + 1)) a0 24 0) a0 x2) (a0 + 22) 0 (fX9_sumOf N K (g_wi (g_wi (g_wi (g_wi (g_wi (g_wi M a0 25 1) a0 23 x1) a0 22 (g_mi (g_wi (g_wi M a0 25 1) a0 23 x1) a0 41)) a0 43 (fX9_codeAt (g_wi (g_wi (g_wi M a0 25 1) a0 23 x1) a0 22 (g_mi (g_wi (g_wi M a0 25 1) a0 23 x1) a0 41)) a0 (g_mi (g_wi (g_wi (g_wi M a0 25 1) a0 23 x1) a0 22 (g_mi (g_wi (g_wi M a0 25 1) a0 23 x1) a0 41)) a0 22))) a0 22 ((g_mi (g_wi (g_wi (g_wi (g_wi M a0 25 1) a0 23 x1) a0 22 (g_mi (g_wi (g_wi M a0 25 1) a0 23 x1) a0 41)) a0 43 (fX9_codeAt (g_wi (g_wi (g_wi M a0 25 1) a0 23 x1) a0 22 (g_mi (g_wi (g_wi M a0 25 1) a0 23 x1) a0 41)) a0 (g_mi (g_wi (g_wi (g_wi M a0 25 1) a0 23 x1) a0 22 (g_mi (g_wi (g_wi M a0 25 1) a0 23 x1) a0 41)) a0 22))) a0 22) + 1)) a0 24 0) a0 x2))) a0 x2))
def bX9_goesAlong_69 (N : Nat) (K : Nat) (M : gM) (f : Nat → Nat → Int32) (g : Nat → Nat → Int64) (a0 : Nat) (x2 : Int32) (k : Nat → (Nat → Nat → Int32) → (Nat → Nat → Int64) → Nat → Int32 → Int32 × (Nat → Nat → Int32) × (Nat → Nat → Int64)) : Int32 × (Nat → Nat → Int32) × (Nat → Nat → Int64) := (if (g_mi (g_wm M f g) a0 24) = 0 then (k 1 (g_mi (g_wi (g_wm M f g) a0 44 1)) (g_ml (g_wi (g_wm M f g) a0 44 1)) a0 x2) else (k 1 (g_mi (g_wi (g_wm M f g) a0 44 0)) (g_ml (g_wi (g_wm M f g) a0 44 0)) a0 x2))
def eX9_goesAlong_69 (N : Nat) (K : Nat) (M : gM) (f : Nat → Nat → Int32) (g : Nat → Nat → Int64) (a0 : Nat) (x2 : Int32) (k : Nat → (Nat → Nat → Int32) → (Nat → Nat → Int64) → Nat → Int32 → Prop) : Prop := (if (g_mi (g_wm M f g) a0 24) = 0 then (k 1 (g_mi (g_wi (g_wm M f g) a0 44 1)) (g_ml (g_wi (g_wm M f g) a0 44 1)) a0 x2) else (k 1 (g_mi (g_wi (g_wm M f g) a0 44 0)) (g_ml (g_wi (g_wm M f g) a0 44 0)) a0 x2))
def bX9_goesAlong_85 (N : Nat) (K : Nat) (M : gM) (f : Nat → Nat → Int32) (g : Nat → Nat → Int64) (a0 : Nat) (x2 : Int32) (k : Nat → (Nat → Nat → Int32) → (Nat → Nat → Int64) → Nat → Int32 → Int32 × (Nat → Nat → Int32) × (Nat → Nat → Int64)) : Int32 × (Nat → Nat → Int32) × (Nat → Nat → Int64) := (if (fX9_passes0 (g_wi (g_wm M f g) a0 42 1) a0 22) = 0 then (k 2 (g_mi (mX9_passes0 (g_wi (g_wm M f g) a0 42 1) a0 22)) (g_ml (mX9_passes0 (g_wi (g_wm M f g) a0 42 1) a0 22)) a0 x2) else (k 2 (g_mi (g_wi (g_wi (mX9_passes0 (g_wi (g_wm M f g) a0 42 1) a0 22) a0 42 (g_mi (mX9_passes0 (g_wi (g_wm M f g) a0 42 1) a0 22) (a0 + 2) ((3012 + (g_mi (mX9_passes0 (g_wi (g_wm M f g) a0 42 1) a0 22) a0 22))).toNatClampNeg)) a0 22 ((g_mi (g_wi (mX9_passes0 (g_wi (g_wm M f g) a0 42 1) a0 22) a0 42 (g_mi (mX9_passes0 (g_wi (g_wm M f g) a0 42 1) a0 22) (a0 + 2) ((3012 + (g_mi (mX9_passes0 (g_wi (g_wm M f g) a0 42 1) a0 22) a0 22))).toNatClampNeg)) a0 22) + 1))) (g_ml (g_wi (g_wi (mX9_passes0 (g_wi (g_wm M f g) a0 42 1) a0 22) a0 42 (g_mi (mX9_passes0 (g_wi (g_wm M f g) a0 42 1) a0 22) (a0 + 2) ((3012 + (g_mi (mX9_passes0 (g_wi (g_wm M f g) a0 42 1) a0 22) a0 22))).toNatClampNeg)) a0 22 ((g_mi (g_wi (mX9_passes0 (g_wi (g_wm M f g) a0 42 1) a0 22) a0 42 (g_mi (mX9_passes0 (g_wi (g_wm M f g) a0 42 1) a0 22) (a0 + 2) ((3012 + (g_mi (mX9_passes0 (g_wi (g_wm M f g) a0 42 1) a0 22) a0 22))).toNatClampNeg)) a0 22) + 1))) a0 x2))
def eX9_goesAlong_85 (N : Nat) (K : Nat) (M : gM) (f : Nat → Nat → Int32) (g : Nat → Nat → Int64) (a0 : Nat) (x2 : Int32) (k : Nat → (Nat → Nat → Int32) → (Nat → Nat → Int64) → Nat → Int32 → Prop) : Prop := (EX9_passes0 (g_wi (g_wm M f g) a0 42 1) a0 22) ∧ ((¬ (fX9_passes0 (g_wi (g_wm M f g) a0 42 1) a0 22) = 0) → vp_in ((3012 + (g_mi (mX9_passes0 (g_wi (g_wm M f g) a0 42 1) a0 22) a0 22))) 5812) ∧ (if (fX9_passes0 (g_wi (g_wm M f g) a0 42 1) a0 22) = 0 then (k 2 (g_mi (mX9_passes0 (g_wi (g_wm M f g) a0 42 1) a0 22)) (g_ml (mX9_passes0 (g_wi (g_wm M f g) a0 42 1) a0 22)) a0 x2) else (k 2 (g_mi (g_wi (g_wi (mX9_passes0 (g_wi (g_wm M f g) a0 42 1) a0 22) a0 42 (g_mi (mX9_passes0 (g_wi (g_wm M f g) a0 42 1) a0 22) (a0 + 2) ((3012 + (g_mi (mX9_passes0 (g_wi (g_wm M f g) a0 42 1) a0 22) a0 22))).toNatClampNeg)) a0 22 ((g_mi (g_wi (mX9_passes0 (g_wi (g_wm M f g) a0 42 1) a0 22) a0 42 (g_mi (mX9_passes0 (g_wi (g_wm M f g) a0 42 1) a0 22) (a0 + 2) ((3012 + (g_mi (mX9_passes0 (g_wi (g_wm M f g) a0 42 1) a0 22) a0 22))).toNatClampNeg)) a0 22) + 1))) (g_ml (g_wi (g_wi (mX9_passes0 (g_wi (g_wm M f g) a0 42 1) a0 22) a0 42 (g_mi (mX9_passes0 (g_wi (g_wm M f g) a0 42 1) a0 22) (a0 + 2) ((3012 + (g_mi (mX9_passes0 (g_wi (g_wm M f g) a0 42 1) a0 22) a0 22))).toNatClampNeg)) a0 22 ((g_mi (g_wi (mX9_passes0 (g_wi (g_wm M f g) a0 42 1) a0 22) a0 42 (g_mi (mX9_passes0 (g_wi (g_wm M f g) a0 42 1) a0 22) (a0 + 2) ((3012 + (g_mi (mX9_passes0 (g_wi (g_wm M f g) a0 42 1) a0 22) a0 22))).toNatClampNeg)) a0 22) + 1))) a0 x2))
def bX9_goesAlong_126 (N : Nat) (K : Nat) (M : gM) (f : Nat → Nat → Int32) (g : Nat → Nat → Int64) (a0 : Nat) (x2 : Int32) (k : Nat → (Nat → Nat → Int32) → (Nat → Nat → Int64) → Nat → Int32 → Int32 × (Nat → Nat → Int32) × (Nat → Nat → Int64)) : Int32 × (Nat → Nat → Int32) × (Nat → Nat → Int64) := (if (fX9_passes0 (g_wi (g_wm M f g) a0 24 0) a0 3) = 0 then (k 3 (g_mi (g_wi (mX9_passes0 (g_wi (g_wm M f g) a0 24 0) a0 3) a0 45 1)) (g_ml (g_wi (mX9_passes0 (g_wi (g_wm M f g) a0 24 0) a0 3) a0 45 1)) a0 0) else (if (fX9_testOf N K (mX9_passes0 (g_wi (g_wm M f g) a0 24 0) a0 3) a0 x2) = 0 then (k 3 (g_mi (g_wi (mX9_testOf N K (mX9_passes0 (g_wi (g_wm M f g) a0 24 0) a0 3) a0 x2) a0 45 0)) (g_ml (g_wi (mX9_testOf N K (mX9_passes0 (g_wi (g_wm M f g) a0 24 0) a0 3) a0 x2) a0 45 0)) a0 0) else (k 3 (g_mi (g_wi (mX9_testOf N K (mX9_passes0 (g_wi (g_wm M f g) a0 24 0) a0 3) a0 x2) a0 45 1)) (g_ml (g_wi (mX9_testOf N K (mX9_passes0 (g_wi (g_wm M f g) a0 24 0) a0 3) a0 x2) a0 45 1)) a0 0)))
def eX9_goesAlong_126 (N : Nat) (K : Nat) (M : gM) (f : Nat → Nat → Int32) (g : Nat → Nat → Int64) (a0 : Nat) (x2 : Int32) (k : Nat → (Nat → Nat → Int32) → (Nat → Nat → Int64) → Nat → Int32 → Prop) : Prop := (EX9_passes0 (g_wi (g_wm M f g) a0 24 0) a0 3) ∧ ((¬ (fX9_passes0 (g_wi (g_wm M f g) a0 24 0) a0 3) = 0) → EX9_testOf N K (mX9_passes0 (g_wi (g_wm M f g) a0 24 0) a0 3) a0 x2) ∧ (if (fX9_passes0 (g_wi (g_wm M f g) a0 24 0) a0 3) = 0 then (k 3 (g_mi (g_wi (mX9_passes0 (g_wi (g_wm M f g) a0 24 0) a0 3) a0 45 1)) (g_ml (g_wi (mX9_passes0 (g_wi (g_wm M f g) a0 24 0) a0 3) a0 45 1)) a0 0) else (if (fX9_testOf N K (mX9_passes0 (g_wi (g_wm M f g) a0 24 0) a0 3) a0 x2) = 0 then (k 3 (g_mi (g_wi (mX9_testOf N K (mX9_passes0 (g_wi (g_wm M f g) a0 24 0) a0 3) a0 x2) a0 45 0)) (g_ml (g_wi (mX9_testOf N K (mX9_passes0 (g_wi (g_wm M f g) a0 24 0) a0 3) a0 x2) a0 45 0)) a0 0) else (k 3 (g_mi (g_wi (mX9_testOf N K (mX9_passes0 (g_wi (g_wm M f g) a0 24 0) a0 3) a0 x2) a0 45 1)) (g_ml (g_wi (mX9_testOf N K (mX9_passes0 (g_wi (g_wm M f g) a0 24 0) a0 3) a0 x2) a0 45 1)) a0 0)))
def bX9_goesAlong_156 (N : Nat) (K : Nat) (M : gM) (f : Nat → Nat → Int32) (g : Nat → Nat → Int64) (a0 : Nat) (k : Nat → (Nat → Nat → Int32) → (Nat → Nat → Int64) → Nat → Int32 → Int32 × (Nat → Nat → Int32) × (Nat → Nat → Int64)) : Int32 × (Nat → Nat → Int32) × (Nat → Nat → Int64) := (if (g_mi (g_wm M f g) a0 45) = 0 then (k 4 (g_mi (g_wi (g_wm M f g) a0 45 0)) (g_ml (g_wi (g_wm M f g) a0 45 0)) a0 0) else (if (g_mi (g_wm M f g) a0 24) = 0 then (k 4 (g_mi (g_wi (g_wm M f g) a0 45 1)) (g_ml (g_wi (g_wm M f g) a0 45 1)) a0 0) else (k 4 (g_mi (g_wi (g_wm M f g) a0 45 0)) (g_ml (g_wi (g_wm M f g) a0 45 0)) a0 0)))
def eX9_goesAlong_156 (N : Nat) (K : Nat) (M : gM) (f : Nat → Nat → Int32) (g : Nat → Nat → Int64) (a0 : Nat) (k : Nat → (Nat → Nat → Int32) → (Nat → Nat → Int64) → Nat → Int32 → Prop) : Prop := (if (g_mi (g_wm M f g) a0 45) = 0 then (k 4 (g_mi (g_wi (g_wm M f g) a0 45 0)) (g_ml (g_wi (g_wm M f g) a0 45 0)) a0 0) else (if (g_mi (g_wm M f g) a0 24) = 0 then (k 4 (g_mi (g_wi (g_wm M f g) a0 45 1)) (g_ml (g_wi (g_wm M f g) a0 45 1)) a0 0) else (k 4 (g_mi (g_wi (g_wm M f g) a0 45 0)) (g_ml (g_wi (g_wm M f g) a0 45 0)) a0 0)))
def bX9_goesAlong_179 (N : Nat) (K : Nat) (M : gM) (f : Nat → Nat → Int32) (g : Nat → Nat → Int64) (a0 : Nat) (k : Nat → (Nat → Nat → Int32) → (Nat → Nat → Int64) → Nat → Int32 → Int32 × (Nat → Nat → Int32) × (Nat → Nat → Int64)) : Int32 × (Nat → Nat → Int32) × (Nat → Nat → Int64) := (0, g_mi (g_wi (g_wm M f g) a0 22 ((g_mi (g_wm M f g) a0 22) + 1)), g_ml (g_wi (g_wm M f g) a0 22 ((g_mi (g_wm M f g) a0 22) + 1)))
def eX9_goesAlong_179 (N : Nat) (K : Nat) (M : gM) (f : Nat → Nat → Int32) (g : Nat → Nat → Int64) (a0 : Nat) (k : Nat → (Nat → Nat → Int32) → (Nat → Nat → Int64) → Nat → Int32 → Prop) : Prop := True
def wX9_goesAlong (N : Nat) (K : Nat) (M : gM) : Nat → Nat → (Nat → Nat → Int32) → (Nat → Nat → Int64) → Nat → Int32 → Int32 × (Nat → Nat → Int32) × (Nat → Nat → Int64)
  | 0, _, f, g, _, _ => (0, f, g)
  | n + 1, h, f, g, a0, x2 => if h = 0 then bX9_goesAlong_69 N K M f g a0 x2 (wX9_goesAlong N K M n) else if h = 1 then bX9_goesAlong_85 N K M f g a0 x2 (wX9_goesAlong N K M n) else if h = 2 then bX9_goesAlong_126 N K M f g a0 x2 (wX9_goesAlong N K M n) else if h = 3 then bX9_goesAlong_156 N K M f g a0 (wX9_goesAlong N K M n) else bX9_goesAlong_179 N K M f g a0 (wX9_goesAlong N K M n)
def vX9_goesAlong (N : Nat) (K : Nat) (M : gM) : Nat → Nat → (Nat → Nat → Int32) → (Nat → Nat → Int64) → Nat → Int32 → Prop
  | 0, _, _, _, _, _ => False
  | n + 1, h, f, g, a0, x2 => if h = 0 then eX9_goesAlong_69 N K M f g a0 x2 (vX9_goesAlong N K M n) else if h = 1 then eX9_goesAlong_85 N K M f g a0 x2 (vX9_goesAlong N K M n) else if h = 2 then eX9_goesAlong_126 N K M f g a0 x2 (vX9_goesAlong N K M n) else if h = 3 then eX9_goesAlong_156 N K M f g a0 (vX9_goesAlong N K M n) else eX9_goesAlong_179 N K M f g a0 (vX9_goesAlong N K M n)
set_option maxRecDepth 10000 in
theorem lpX9_goesAlong {X : gX} {d mc ms : Nat} {Q : Option Value → gM → Prop} (N : Nat) (K : Nat) (M : gM) : ∀ n : Nat, (∀ (f : Nat → Nat → Int32) (g : Nat → Nat → Int64) (a0 : Nat) (x2 : Int32), Mo M a0 → vX9_goesAlong N K M n 0 f g a0 x2 → Q none (g_wm M (wX9_goesAlong N K M n 0 f g a0 x2).2.1 (wX9_goesAlong N K M n 0 f g a0 x2).2.2) → Go X (d + K + 7) mc ms kX9_goesAlong Q 69 [(0, .ref a0), (2, .int (x2))] [] (g_wm M f g) 0 0) ∧ (∀ (f : Nat → Nat → Int32) (g : Nat → Nat → Int64) (a0 : Nat) (x2 : Int32), Mo M a0 → vX9_goesAlong N K M n 1 f g a0 x2 → Q none (g_wm M (wX9_goesAlong N K M n 1 f g a0 x2).2.1 (wX9_goesAlong N K M n 1 f g a0 x2).2.2) → Go X (d + K + 7) mc ms kX9_goesAlong Q 85 [(0, .ref a0), (2, .int (x2))] [] (g_wm M f g) 0 0) ∧ (∀ (f : Nat → Nat → Int32) (g : Nat → Nat → Int64) (a0 : Nat) (x2 : Int32), Mo M a0 → vX9_goesAlong N K M n 2 f g a0 x2 → Q none (g_wm M (wX9_goesAlong N K M n 2 f g a0 x2).2.1 (wX9_goesAlong N K M n 2 f g a0 x2).2.2) → Go X (d + K + 7) mc ms kX9_goesAlong Q 126 [(0, .ref a0), (2, .int (x2))] [] (g_wm M f g) 0 0) ∧ (∀ (f : Nat → Nat → Int32) (g : Nat → Nat → Int64) (a0 : Nat) (x2 : Int32), Mo M a0 → vX9_goesAlong N K M n 3 f g a0 x2 → Q none (g_wm M (wX9_goesAlong N K M n 3 f g a0 x2).2.1 (wX9_goesAlong N K M n 3 f g a0 x2).2.2) → Go X (d + K + 7) mc ms kX9_goesAlong Q 156 [(0, .ref a0)] [] (g_wm M f g) 0 0) ∧ (∀ (f : Nat → Nat → Int32) (g : Nat → Nat → Int64) (a0 : Nat) (x2 : Int32), Mo M a0 → vX9_goesAlong N K M n 4 f g a0 x2 → Q none (g_wm M (wX9_goesAlong N K M n 4 f g a0 x2).2.1 (wX9_goesAlong N K M n 4 f g a0 x2).2.2) → Go X (d + K + 7) mc ms kX9_goesAlong Q 179 [(0, .ref a0)] [] (g_wm M f g) 0 0) := by
  intro n
  induction n with
  | zero => exact ⟨fun _ _ _ _ _ h _ => h.elim, fun _ _ _ _ _ h _ => h.elim, fun _ _ _ _ _ h _ => h.elim, fun _ _ _ _ _ h _ => h.elim, fun _ _ _ _ _ h _ => h.elim⟩
  | succ n ih =>
    refine ⟨?_, ?_, ?_, ?_, ?_⟩
    · intro f g a0 x2 s0 hT hQ
      rw [vX9_goesAlong, if_pos (show (0 : Nat) = 0 from rfl)] at hT
      rw [wX9_goesAlong, if_pos (show (0 : Nat) = 0 from rfl)] at hQ
      unfold bX9_goesAlong_69 at hQ
      unfold eX9_goesAlong_69 at hT
      exact sX9_goesAlong_69 (M := (g_wm M f g)) (Mo.sl Sl.wm s0) (fun c1 => by simp only [if_neg c1] at hQ hT; exact Sl.g (Sl.tr Sl.wm (Sm.l (Sm.wi Sm.rf))) (ih.2.1 _ _ _ _ (s0) hT hQ)) (fun c1 => by simp only [if_pos c1] at hQ hT; exact Sl.g (Sl.tr Sl.wm (Sm.l (Sm.wi Sm.rf))) (ih.2.1 _ _ _ _ (s0) hT hQ))
    · intro f g a0 x2 s0 hT hQ
      rw [vX9_goesAlong, if_neg (show ¬ (1 : Nat) = 0 by decide), if_pos (show (1 : Nat) = 1 from rfl)] at hT
      rw [wX9_goesAlong, if_neg (show ¬ (1 : Nat) = 0 by decide), if_pos (show (1 : Nat) = 1 from rfl)] at hQ
      unfold bX9_goesAlong_85 at hQ
      unfold eX9_goesAlong_85 at hT
      obtain ⟨b3, b5, hT⟩ := hT
      exact sX9_goesAlong_85 (M := (g_wm M f g)) (Mo.sl Sl.wm s0) (Nat.zero_le _) (Nat.zero_le _) b3 (fun c1 => by simp only [if_pos c1] at hQ hT; exact Sl.g (Sl.tr Sl.wm (Sm.l (Sm.tr (Sm.wi Sm.rf) jX9_passes0))) (ih.2.2.1 _ _ _ _ (s0) hT hQ)) b5 (fun c1 => by simp only [if_neg c1] at hQ hT; exact Sl.g (Sl.tr Sl.wm (Sm.l (Sm.wi (Sm.wi (Sm.tr (Sm.wi Sm.rf) jX9_passes0))))) (ih.2.2.1 _ _ _ _ (s0) hT hQ))
    · intro f g a0 x2 s0 hT hQ
      rw [vX9_goesAlong, if_neg (show ¬ (2 : Nat) = 0 by decide), if_neg (show ¬ (2 : Nat) = 1 by decide), if_pos (show (2 : Nat) = 2 from rfl)] at hT
      rw [wX9_goesAlong, if_neg (show ¬ (2 : Nat) = 0 by decide), if_neg (show ¬ (2 : Nat) = 1 by decide), if_pos (show (2 : Nat) = 2 from rfl)] at hQ
      unfold bX9_goesAlong_126 at hQ
      unfold eX9_goesAlong_126 at hT
      obtain ⟨b3, b5, hT⟩ := hT
      exact sX9_goesAlong_126 (M := (g_wm M f g)) (Mo.sl Sl.wm s0) (Nat.zero_le _) (Nat.zero_le _) b3 (fun c1 => by simp only [if_pos c1] at hQ hT; exact Sl.g (Sl.tr Sl.wm (Sm.l (Sm.wi (Sm.tr (Sm.wi Sm.rf) jX9_passes0)))) (ih.2.2.2.1 _ _ _ _ (s0) hT hQ)) b5 (fun c1 c2 => by simp only [if_neg c1, if_pos c2] at hQ hT; exact Sl.g (Sl.tr Sl.wm (Sm.l (Sm.wi (Sm.tr (Sm.tr (Sm.wi Sm.rf) jX9_passes0) jX9_testOf)))) (ih.2.2.2.1 _ _ _ _ (s0) hT hQ)) (fun c1 c2 => by simp only [if_neg c1, if_neg c2] at hQ hT; exact Sl.g (Sl.tr Sl.wm (Sm.l (Sm.wi (Sm.tr (Sm.tr (Sm.wi Sm.rf) jX9_passes0) jX9_testOf)))) (ih.2.2.2.1 _ _ _ _ (s0) hT hQ))
    · intro f g a0 x2 s0 hT hQ
      rw [vX9_goesAlong, if_neg (show ¬ (3 : Nat) = 0 by decide), if_neg (show ¬ (3 : Nat) = 1 by decide), if_neg (show ¬ (3 : Nat) = 2 by decide), if_pos (show (3 : Nat) = 3 from rfl)] at hT
      rw [wX9_goesAlong, if_neg (show ¬ (3 : Nat) = 0 by decide), if_neg (show ¬ (3 : Nat) = 1 by decide), if_neg (show ¬ (3 : Nat) = 2 by decide), if_pos (show (3 : Nat) = 3 from rfl)] at hQ
      unfold bX9_goesAlong_156 at hQ
      unfold eX9_goesAlong_156 at hT
      exact sX9_goesAlong_156 (M := (g_wm M f g)) (Mo.sl Sl.wm s0) (fun c1 => by simp only [if_pos c1] at hQ hT; exact Sl.g (Sl.tr Sl.wm (Sm.l (Sm.wi Sm.rf))) (ih.2.2.2.2 _ _ _ _ (s0) hT hQ)) (fun c1 c2 => by simp only [if_neg c1, if_neg c2] at hQ hT; exact Sl.g (Sl.tr Sl.wm (Sm.l (Sm.wi Sm.rf))) (ih.2.2.2.2 _ _ _ _ (s0) hT hQ)) (fun c1 c2 => by simp only [if_neg c1, if_pos c2] at hQ hT; exact Sl.g (Sl.tr Sl.wm (Sm.l (Sm.wi Sm.rf))) (ih.2.2.2.2 _ _ _ _ (s0) hT hQ))
    · intro f g a0 x2 s0 hT hQ
      rw [vX9_goesAlong, if_neg (show ¬ (4 : Nat) = 0 by decide), if_neg (show ¬ (4 : Nat) = 1 by decide), if_neg (show ¬ (4 : Nat) = 2 by decide), if_neg (show ¬ (4 : Nat) = 3 by decide)] at hT
      rw [wX9_goesAlong, if_neg (show ¬ (4 : Nat) = 0 by decide), if_neg (show ¬ (4 : Nat) = 1 by decide), if_neg (show ¬ (4 : Nat) = 2 by decide), if_neg (show ¬ (4 : Nat) = 3 by decide)] at hQ
      unfold bX9_goesAlong_179 at hQ
      unfold eX9_goesAlong_179 at hT
      exact sX9_goesAlong_179 (M := (g_wm M f g)) (Mo.sl Sl.wm s0) (Sl.q (Sl.tr Sl.wm (Sm.l (Sm.wi Sm.rf))) hQ) (Nat.zero_le _) (Nat.zero_le _)
def mX9_goesAlong (N : Nat) (K : Nat) (M : gM) (a0 : Nat) (x1 : Int32) (x2 : Int32) : gM := g_wm M (bX9_goesAlong_0 N K M a0 x1 x2 (wX9_goesAlong N K M N)).2.1 (bX9_goesAlong_0 N K M a0 x1 x2 (wX9_goesAlong N K M N)).2.2
theorem jX9_goesAlong {N : Nat} {K : Nat} {M : gM} {a0 : Nat} {x1 : Int32} {x2 : Int32} : Sl M (mX9_goesAlong N K M a0 x1 x2) := Sl.wm
def EX9_goesAlong (N : Nat) (K : Nat) (M : gM) (a0 : Nat) (x1 : Int32) (x2 : Int32) : Prop := eX9_goesAlong_0 N K M a0 x1 x2 (vX9_goesAlong N K M N)
theorem tX9_goesAlong {N : Nat} {K : Nat} {X : gX} {d mc ms : Nat} {Q : Option Value → gM → Prop} {M : gM} {a0 : Nat} {x1 : Int32} {x2 : Int32} (s0 : Mo M a0) (hE : EX9_goesAlong N K M a0 x1 x2) (hQ : Q none (mX9_goesAlong N K M a0 x1 x2)) : Cn X (d + K + 7) mc ms kX9_goesAlong [.ref a0, .int (x1), .int (x2)] M Q := by
  unfold mX9_goesAlong at hQ
  unfold bX9_goesAlong_0 at hQ
  unfold EX9_goesAlong eX9_goesAlong_0 at hE
  obtain ⟨b1, b2, hT⟩ := hE
  have ih := lpX9_goesAlong (X := X) (d := d) (mc := mc) (ms := ms) (Q := Q) N K M N
  exact sX9_goesAlong_0 s0 b1 b2 (fun c1 => by simp only [if_neg c1] at hQ hT; exact Sl.g (Sl.wl (Sm.l (Sm.tr (Sm.wi (Sm.wi (Sm.wi (Sm.wi (Sm.wi (Sm.wi Sm.rf)))))) jX9_sumOf))) (ih.1 _ _ _ _ (s0) hT hQ)) (fun c1 => by simp only [if_pos c1] at hQ hT; exact Sl.g (Sl.wl (Sm.l (Sm.wi (Sm.wi (Sm.wi (Sm.wi (Sm.wi (Sm.wi Sm.rf)))))))) (ih.1 _ _ _ _ (s0) hT hQ))
/-! X9_obeys  -/
set_option maxRecDepth 4000 in
theorem sX9_obeys_0 {N : Nat} {K : Nat} {X : gX} {d mc ms : Nat} {Q : Option Value → gM → Prop} {M : gM} {a0 : Nat} (s0 : Mo M a0) (b1 : ((g_mi M a0 43) = 10) → EX9_seedKept N M a0 (fX9_small (g_ml M (a0 + 22) 0))) (h2 : ((g_mi M a0 43) = 10) → Q (some (.int ((fX9_seedKept N M a0 (fX9_small (g_ml M (a0 + 22) 0)))))) (mX9_seedKept N M a0 (fX9_small (g_ml M (a0 + 22) 0)))) (b3 : (¬ (g_mi M a0 43) = 10) → ((g_mi M a0 43) = 18) → EX9_addsKept N K M a0 (fX9_small (g_ml M (a0 + 22) 0))) (h4 : (¬ (g_mi M a0 43) = 10) → ((g_mi M a0 43) = 18) → Q (some (.int ((fX9_addsKept N K M a0 (fX9_small (g_ml M (a0 + 22) 0)))))) (mX9_addsKept N K M a0 (fX9_small (g_ml M (a0 + 22) 0)))) (b5 : (¬ (g_mi M a0 43) = 10) → (¬ (g_mi M a0 43) = 18) → ((g_mi M a0 43) = 19) → EX9_takesKept N M a0 (fX9_small (g_ml M (a0 + 22) 0))) (h6 : (¬ (g_mi M a0 43) = 10) → (¬ (g_mi M a0 43) = 18) → ((g_mi M a0 43) = 19) → Q (some (.int ((fX9_takesKept N M a0 (fX9_small (g_ml M (a0 + 22) 0)))))) (mX9_takesKept N M a0 (fX9_small (g_ml M (a0 + 22) 0)))) (b7 : (¬ (g_mi M a0 43) = 10) → (¬ (g_mi M a0 43) = 18) → (¬ (g_mi M a0 43) = 19) → ((g_mi M a0 43) = 20) → EX9_sideKept N M a0 (fX9_small (g_ml M (a0 + 22) 0))) (h8 : (¬ (g_mi M a0 43) = 10) → (¬ (g_mi M a0 43) = 18) → (¬ (g_mi M a0 43) = 19) → ((g_mi M a0 43) = 20) → Q (some (.int ((fX9_sideKept N M a0 (fX9_small (g_ml M (a0 + 22) 0)))))) (mX9_sideKept N M a0 (fX9_small (g_ml M (a0 + 22) 0)))) (b9 : (¬ (g_mi M a0 43) = 10) → (¬ (g_mi M a0 43) = 18) → (¬ (g_mi M a0 43) = 19) → (¬ (g_mi M a0 43) = 20) → EX9_buildsKept N K M a0) (h10 : (¬ (g_mi M a0 43) = 10) → (¬ (g_mi M a0 43) = 18) → (¬ (g_mi M a0 43) = 19) → (¬ (g_mi M a0 43) = 20) → (0 ≤ (fX9_buildsKept N K M a0)) → Q (some (.int ((fX9_buildsKept N K M a0)))) (g_wi (mX9_buildsKept N K M a0) a0 28 (fX9_buildsKept N K M a0))) (h11 : (¬ (g_mi M a0 43) = 10) → (¬ (g_mi M a0 43) = 18) → (¬ (g_mi M a0 43) = 19) → (¬ (g_mi M a0 43) = 20) → (¬ 0 ≤ (fX9_buildsKept N K M a0)) → Q (some (.int ((fX9_buildsKept N K M a0)))) (g_wi (mX9_buildsKept N K M a0) a0 28 (g_mi (mX9_buildsKept N K M a0) a0 28))) : Cn X (d + K + 12) mc ms kX9_obeys [.ref a0] M Q := by
  refine g_meth rfl rfl (Nat.le_of_ble_eq_true rfl) rfl ?_
  refine g_aload_n 0 1 dX9_obeys_0 rfl rfl ?_
  refine g_getR 4 (a0 + 22) dX9_obeys_1 rfl flX9_97 s0.1 s0.2.2.2.2.2.2.2.2.2.2.2.2.2.2.2.2.2.2.2.2.2.2.2.2.2.2.2.2.2.2.2.2.2.2.2.2.2.2.2.2.2.2.2.1 ?_
  refine g_iconst (0) 5 dX9_obeys_4 rfl rfl ?_
  refine h_laload 6 0 dX9_obeys_5 rfl rfl s0.2.2.2.2.2.2.2.2.2.2.2.2.2.2.2.2.2.2.2.2.2.2.2.2.2.2.2.2.2.2.2.2.2.2.2.2.2.2.2.2.2.2.2.2.1 (vp_lit rfl) ?_
  refine g_callS (mc1 := 0) (ms1 := 0) (rest := []) (av := [.long ((g_ml M (a0 + 22) 0))]) kX9_small 9 dX9_obeys_6 rfl rfl mbX9_463 smX9_small (Nat.le_of_ble_eq_true rfl) (Nat.zero_le _) (Nat.zero_le _) (tX9_small  ?_)
  show Go X (d + K + 12) mc ms kX9_obeys Q 9 [(0, .ref a0)] [.int ((fX9_small (g_ml M (a0 + 22) 0)))] M 0 0
  refine g_istore_n 10 [(1, .int ((fX9_small (g_ml M (a0 + 22) 0)))), (0, .ref a0)] dX9_obeys_9 rfl (Nat.le_of_ble_eq_true rfl) rfl ?_
  refine g_aload_n 1 11 dX9_obeys_10 rfl rfl ?_
  refine g_getI 14 dX9_obeys_11 rfl flX9_449 s0.1 ?_
  by_cases c1 : (g_mi M a0 43) = 10
  · refine h_lookIn (10) 74 dX9_obeys_14 (by decide) c1 rfl rfl ?_
    refine g_aload_n 1 75 dX9_obeys_74 rfl rfl ?_
    refine g_iload_n 0 76 dX9_obeys_75 rfl rfl ?_
    refine g_callV (mc1 := 0) (ms1 := 0) (b := a0) (rest := []) (av := [.int ((fX9_small (g_ml M (a0 + 22) 0)))]) kX9_seedKept 79 dX9_obeys_76 rfl rfl mbX9_395 imX9_seedKept seX9_seedKept gcl9.1 s0.1 (Nat.le_of_ble_eq_true rfl) (Nat.zero_le _) (Nat.zero_le _) (tX9_seedKept (N := N) s0 (b1 c1) ?_)
    show Go X (d + K + 12) mc ms kX9_obeys Q 79 [(1, .int ((fX9_small (g_ml M (a0 + 22) 0)))), (0, .ref a0)] [.int ((fX9_seedKept N M a0 (fX9_small (g_ml M (a0 + 22) 0))))] (mX9_seedKept N M a0 (fX9_small (g_ml M (a0 + 22) 0))) 0 0
    exact g_iret dX9_obeys_79 rfl (Nat.zero_le _) (Nat.zero_le _) (h2 c1)
  by_cases c2 : (g_mi M a0 43) = 18
  · refine h_lookIn (18) 56 dX9_obeys_14 (by decide) c2 rfl rfl ?_
    refine g_aload_n 1 57 dX9_obeys_56 rfl rfl ?_
    refine g_iload_n 0 58 dX9_obeys_57 rfl rfl ?_
    refine g_callV (mc1 := 0) (ms1 := 0) (b := a0) (rest := []) (av := [.int ((fX9_small (g_ml M (a0 + 22) 0)))]) kX9_addsKept 61 dX9_obeys_58 rfl rfl mbX9_383 imX9_addsKept seX9_addsKept gcl9.1 s0.1 (Nat.le_of_ble_eq_true rfl) (Nat.zero_le _) (Nat.zero_le _) (Cn.cd (show d + 1 + K + 10 = d + K + 11 by omega) (tX9_addsKept (d := d + 1) (N := N) (K := K) s0 (b3 c1 c2) ?_))
    show Go X (d + K + 12) mc ms kX9_obeys Q 61 [(1, .int ((fX9_small (g_ml M (a0 + 22) 0)))), (0, .ref a0)] [.int ((fX9_addsKept N K M a0 (fX9_small (g_ml M (a0 + 22) 0))))] (mX9_addsKept N K M a0 (fX9_small (g_ml M (a0 + 22) 0))) 0 0
    exact g_iret dX9_obeys_61 rfl (Nat.zero_le _) (Nat.zero_le _) (h4 c1 c2)
  by_cases c3 : (g_mi M a0 43) = 19
  · refine h_lookIn (19) 62 dX9_obeys_14 (by decide) c3 rfl rfl ?_
    refine g_aload_n 1 63 dX9_obeys_62 rfl rfl ?_
    refine g_iload_n 0 64 dX9_obeys_63 rfl rfl ?_
    refine g_callV (mc1 := 0) (ms1 := 0) (b := a0) (rest := []) (av := [.int ((fX9_small (g_ml M (a0 + 22) 0)))]) kX9_takesKept 67 dX9_obeys_64 rfl rfl mbX9_389 imX9_takesKept seX9_takesKept gcl9.1 s0.1 (Nat.le_of_ble_eq_true rfl) (Nat.zero_le _) (Nat.zero_le _) (tX9_takesKept (N := N) s0 (b5 c1 c2 c3) ?_)
    show Go X (d + K + 12) mc ms kX9_obeys Q 67 [(1, .int ((fX9_small (g_ml M (a0 + 22) 0)))), (0, .ref a0)] [.int ((fX9_takesKept N M a0 (fX9_small (g_ml M (a0 + 22) 0))))] (mX9_takesKept N M a0 (fX9_small (g_ml M (a0 + 22) 0))) 0 0
    exact g_iret dX9_obeys_67 rfl (Nat.zero_le _) (Nat.zero_le _) (h6 c1 c2 c3)
  by_cases c4 : (g_mi M a0 43) = 20
  · refine h_lookIn (20) 68 dX9_obeys_14 (by decide) c4 rfl rfl ?_
    refine g_aload_n 1 69 dX9_obeys_68 rfl rfl ?_
    refine g_iload_n 0 70 dX9_obeys_69 rfl rfl ?_
    refine g_callV (mc1 := 0) (ms1 := 0) (b := a0) (rest := []) (av := [.int ((fX9_small (g_ml M (a0 + 22) 0)))]) kX9_sideKept 73 dX9_obeys_70 rfl rfl mbX9_392 imX9_sideKept seX9_sideKept gcl9.1 s0.1 (Nat.le_of_ble_eq_true rfl) (Nat.zero_le _) (Nat.zero_le _) (tX9_sideKept (N := N) s0 (b7 c1 c2 c3 c4) ?_)
    show Go X (d + K + 12) mc ms kX9_obeys Q 73 [(1, .int ((fX9_small (g_ml M (a0 + 22) 0)))), (0, .ref a0)] [.int ((fX9_sideKept N M a0 (fX9_small (g_ml M (a0 + 22) 0))))] (mX9_sideKept N M a0 (fX9_small (g_ml M (a0 + 22) 0))) 0 0
    exact g_iret dX9_obeys_73 rfl (Nat.zero_le _) (Nat.zero_le _) (h8 c1 c2 c3 c4)
  have tc1 := i_neT c1
  rw [show ((10 : Int32)).toInt = 10 from rfl] at tc1
  have tc2 := i_neT c2
  rw [show ((18 : Int32)).toInt = 18 from rfl] at tc2
  have tc3 := i_neT c3
  rw [show ((19 : Int32)).toInt = 19 from rfl] at tc3
  have tc4 := i_neT c4
  rw [show ((20 : Int32)).toInt = 20 from rfl] at tc4
  refine g_lookup (off := 66) 80 dX9_obeys_14 (by decide) (by simp [Op.lookupswitch.offset, tc1, tc2, tc3, tc4, Ne.symm tc1, Ne.symm tc2, Ne.symm tc3, Ne.symm tc4]) rfl ?_
  refine g_aload_n 1 81 dX9_obeys_80 rfl rfl ?_
  refine g_callV (mc1 := 0) (ms1 := 0) (b := a0) (rest := []) (av := []) kX9_buildsKept 84 dX9_obeys_81 rfl rfl mbX9_398 imX9_buildsKept seX9_buildsKept gcl9.1 s0.1 (Nat.le_of_ble_eq_true rfl) (Nat.zero_le _) (Nat.zero_le _) (tX9_buildsKept (N := N) (K := K) s0 (b9 c1 c2 c3 c4) ?_)
  show Go X (d + K + 12) mc ms kX9_obeys Q 84 [(1, .int ((fX9_small (g_ml M (a0 + 22) 0)))), (0, .ref a0)] [.int ((fX9_buildsKept N K M a0))] (mX9_buildsKept N K M a0) 0 0
  refine g_istore_n 85 [(2, .int ((fX9_buildsKept N K M a0))), (1, .int ((fX9_small (g_ml M (a0 + 22) 0)))), (0, .ref a0)] dX9_obeys_84 rfl (Nat.le_of_ble_eq_true rfl) rfl ?_
  refine g_aload_n 2 86 dX9_obeys_85 rfl rfl ?_
  refine g_iload_n 0 87 dX9_obeys_86 rfl rfl ?_
  refine g_if_ge 97 90 dX9_obeys_87 rfl rfl (fun c5 => ?_) (fun c5 => ?_)
  · skip
    refine g_iload_n 0 98 dX9_obeys_97 rfl rfl ?_
    refine g_putI 101 dX9_obeys_98 rfl flX9_308 (Sm.k (Sm.tr Sm.rf jX9_buildsKept) s0.1) ?_
    refine g_iload_n 0 102 dX9_obeys_101 rfl rfl ?_
    exact g_iret dX9_obeys_102 rfl (Nat.zero_le _) (Nat.zero_le _) (h10 c1 c2 c3 c4 c5)
  · skip
    refine g_aload_n 2 91 dX9_obeys_90 rfl rfl ?_
    refine g_getI 94 dX9_obeys_91 rfl flX9_308 (Sm.k (Sm.tr Sm.rf jX9_buildsKept) s0.1) ?_
    refine g_goto 98 dX9_obeys_94 rfl ?_
    refine g_putI 101 dX9_obeys_98 rfl flX9_308 (Sm.k (Sm.tr Sm.rf jX9_buildsKept) s0.1) ?_
    refine g_iload_n 0 102 dX9_obeys_101 rfl rfl ?_
    exact g_iret dX9_obeys_102 rfl (Nat.zero_le _) (Nat.zero_le _) (h11 c1 c2 c3 c4 c5)

def fX9_obeys (N : Nat) (K : Nat) (M : gM) (a0 : Nat) : Int32 := (if (g_mi M a0 43) = 10 then (fX9_seedKept N M a0 (fX9_small (g_ml M (a0 + 22) 0))) else (if (g_mi M a0 43) = 18 then (fX9_addsKept N K M a0 (fX9_small (g_ml M (a0 + 22) 0))) else (if (g_mi M a0 43) = 19 then (fX9_takesKept N M a0 (fX9_small (g_ml M (a0 + 22) 0))) else (if (g_mi M a0 43) = 20 then (fX9_sideKept N M a0 (fX9_small (g_ml M (a0 + 22) 0))) else (if 0 ≤ (fX9_buildsKept N K M a0) then (fX9_buildsKept N K M a0) else (fX9_buildsKept N K M a0))))))
def mX9_obeys (N : Nat) (K : Nat) (M : gM) (a0 : Nat) : gM := g_wm M (if (g_mi M a0 43) = 10 then (g_mi (mX9_seedKept N M a0 (fX9_small (g_ml M (a0 + 22) 0)))) else (if (g_mi M a0 43) = 18 then (g_mi (mX9_addsKept N K M a0 (fX9_small (g_ml M (a0 + 22) 0)))) else (if (g_mi M a0 43) = 19 then (g_mi (mX9_takesKept N M a0 (fX9_small (g_ml M (a0 + 22) 0)))) else (if (g_mi M a0 43) = 20 then (g_mi (mX9_sideKept N M a0 (fX9_small (g_ml M (a0 + 22) 0)))) else (if 0 ≤ (fX9_buildsKept N K M a0) then (g_mi (g_wi (mX9_buildsKept N K M a0) a0 28 (fX9_buildsKept N K M a0))) else (g_mi (g_wi (mX9_buildsKept N K M a0) a0 28 (g_mi (mX9_buildsKept N K M a0) a0 28)))))))) (g_ml M)
def EX9_obeys (N : Nat) (K : Nat) (M : gM) (a0 : Nat) : Prop := (((g_mi M a0 43) = 10) → EX9_seedKept N M a0 (fX9_small (g_ml M (a0 + 22) 0))) ∧ ((¬ (g_mi M a0 43) = 10) → ((g_mi M a0 43) = 18) → EX9_addsKept N K M a0 (fX9_small (g_ml M (a0 + 22) 0))) ∧ ((¬ (g_mi M a0 43) = 10) → (¬ (g_mi M a0 43) = 18) → ((g_mi M a0 43) = 19) → EX9_takesKept N M a0 (fX9_small (g_ml M (a0 + 22) 0))) ∧ ((¬ (g_mi M a0 43) = 10) → (¬ (g_mi M a0 43) = 18) → (¬ (g_mi M a0 43) = 19) → ((g_mi M a0 43) = 20) → EX9_sideKept N M a0 (fX9_small (g_ml M (a0 + 22) 0))) ∧ ((¬ (g_mi M a0 43) = 10) → (¬ (g_mi M a0 43) = 18) → (¬ (g_mi M a0 43) = 19) → (¬ (g_mi M a0 43) = 20) → EX9_buildsKept N K M a0)
theorem jX9_obeys {N : Nat} {K : Nat} {M : gM} {a0 : Nat} : Sm M (mX9_obeys N K M a0) := Sm.wm
theorem tX9_obeys {N : Nat} {K : Nat} {X : gX} {d mc ms : Nat} {Q : Option Value → gM → Prop} {M : gM} {a0 : Nat} (s0 : Mo M a0) (hE : EX9_obeys N K M a0) (hQ : Q (some (.int (fX9_obeys N K M a0))) (mX9_obeys N K M a0)) : Cn X (d + K + 12) mc ms kX9_obeys [.ref a0] M Q := by
  unfold fX9_obeys mX9_obeys at hQ
  obtain ⟨b1, b3, b5, b7, b9⟩ := hE
  exact sX9_obeys_0 s0 b1 (fun c1 => by simp only [if_pos c1] at hQ; exact Sm.q (Sm.tr Sm.rf jX9_seedKept) hQ) b3 (fun c1 c2 => by simp only [if_neg c1, if_pos c2] at hQ; exact Sm.q (Sm.tr Sm.rf jX9_addsKept) hQ) b5 (fun c1 c2 c3 => by simp only [if_neg c1, if_neg c2, if_pos c3] at hQ; exact Sm.q (Sm.tr Sm.rf jX9_takesKept) hQ) b7 (fun c1 c2 c3 c4 => by simp only [if_neg c1, if_neg c2, if_neg c3, if_pos c4] at hQ; exact Sm.q (Sm.tr Sm.rf jX9_sideKept) hQ) b9 (fun c1 c2 c3 c4 c5 => by simp only [if_neg c1, if_neg c2, if_neg c3, if_neg c4, if_pos c5] at hQ; exact Sm.q (Sm.wi (Sm.tr Sm.rf jX9_buildsKept)) hQ) (fun c1 c2 c3 c4 c5 => by simp only [if_neg c1, if_neg c2, if_neg c3, if_neg c4, if_neg c5] at hQ; exact Sm.q (Sm.wi (Sm.tr Sm.rf jX9_buildsKept)) hQ)
/-! X9_runs  -/
set_option maxRecDepth 4000 in
theorem sX9_runs_0 {N : Nat} {K : Nat} {X : gX} {d mc ms : Nat} {Q : Option Value → gM → Prop} {M : gM} {a0 : Nat} {x1 : Int32} (s0 : Mo M a0) (b1 : EX9_goesAlong N K M a0 x1 0) (h2 : Go X (d + K + 13) mc ms kX9_runs Q 19 [(0, .ref a0), (1, .int (x1)), (2, .int ((g_mi (mX9_goesAlong N K M a0 x1 0) a0 42))), (3, .int ((g_mi (mX9_goesAlong N K M a0 x1 0) a0 22))), (4, .int (0))] [] (mX9_goesAlong N K M a0 x1 0) 0 0) : Cn X (d + K + 13) mc ms kX9_runs [.ref a0, .int (x1)] M Q := by
  refine g_meth rfl rfl (Nat.le_of_ble_eq_true rfl) rfl ?_
  refine g_aload_n 0 1 dX9_runs_0 rfl rfl ?_
  refine g_iload_n 1 2 dX9_runs_1 rfl rfl ?_
  refine g_iconst (0) 3 dX9_runs_2 rfl rfl ?_
  refine g_callV (mc1 := 0) (ms1 := 0) (b := a0) (rest := []) (av := [.int (x1), .int (0)]) kX9_goesAlong 6 dX9_runs_3 rfl rfl mbX9_467 imX9_goesAlong seX9_goesAlong gcl9.1 s0.1 (Nat.le_of_ble_eq_true rfl) (Nat.zero_le _) (Nat.zero_le _) (Cn.cd (show d + 5 + K + 7 = d + K + 12 by omega) (tX9_goesAlong (d := d + 5) (N := N) (K := K) s0 (b1) ?_))
  show Go X (d + K + 13) mc ms kX9_runs Q 6 [(0, .ref a0), (1, .int (x1))] [] (mX9_goesAlong N K M a0 x1 0) 0 0
  refine g_aload_n 0 7 dX9_runs_6 rfl rfl ?_
  refine g_getI 10 dX9_runs_7 rfl flX9_455 (Sl.k (Sl.tr Sl.rf jX9_goesAlong) s0.1) ?_
  refine g_istore_n 11 [(2, .int ((g_mi (mX9_goesAlong N K M a0 x1 0) a0 42))), (0, .ref a0), (1, .int (x1))] dX9_runs_10 rfl (Nat.le_of_ble_eq_true rfl) rfl ?_
  refine g_aload_n 1 12 dX9_runs_11 rfl rfl ?_
  refine g_getI 15 dX9_runs_12 rfl flX9_269 (Sl.k (Sl.tr Sl.rf jX9_goesAlong) s0.1) ?_
  refine g_istore_n 16 [(3, .int ((g_mi (mX9_goesAlong N K M a0 x1 0) a0 22))), (2, .int ((g_mi (mX9_goesAlong N K M a0 x1 0) a0 42))), (0, .ref a0), (1, .int (x1))] dX9_runs_15 rfl (Nat.le_of_ble_eq_true rfl) rfl ?_
  refine g_iconst (0) 17 dX9_runs_16 rfl rfl ?_
  refine g_istore 19 [(4, .int (0)), (3, .int ((g_mi (mX9_goesAlong N K M a0 x1 0) a0 22))), (2, .int ((g_mi (mX9_goesAlong N K M a0 x1 0) a0 42))), (0, .ref a0), (1, .int (x1))] dX9_runs_17 rfl (Nat.le_of_ble_eq_true rfl) rfl ?_
  exact g_sub [3, 4, 2, 1, 0] _ rfl (h2)

set_option maxRecDepth 4000 in
theorem sX9_runs_19 {N : Nat} {K : Nat} {X : gX} {d mc ms : Nat} {Q : Option Value → gM → Prop} {M : gM} {c z : Nat} {a0 : Nat} {x1 : Int32} {x2 : Int32} {x3 : Int32} {x4 : Int32} (s0 : Mo M a0) (h1 : (x2 ≤ x4) → Q (some (.int (1))) (g_wi M a0 41 x3)) (w2 : c ≤ mc) (w3 : z ≤ ms) (b4 : (¬ x2 ≤ x4) → EX9_goesAlong N K M a0 x1 1) (h5 : (¬ x2 ≤ x4) → (¬ (g_mi (mX9_goesAlong N K M a0 x1 1) a0 45) = 0) → ((g_mi (mX9_goesAlong N K M a0 x1 1) a0 44) = 0) → Q (some (.int (0))) (mX9_goesAlong N K M a0 x1 1)) (b6 : (¬ x2 ≤ x4) → (¬ (g_mi (mX9_goesAlong N K M a0 x1 1) a0 45) = 0) → (¬ (g_mi (mX9_goesAlong N K M a0 x1 1) a0 44) = 0) → EX9_obeys N K (mX9_goesAlong N K M a0 x1 1) a0) (h7 : (¬ x2 ≤ x4) → (¬ (g_mi (mX9_goesAlong N K M a0 x1 1) a0 45) = 0) → (¬ (g_mi (mX9_goesAlong N K M a0 x1 1) a0 44) = 0) → (0 ≤ (fX9_obeys N K (mX9_goesAlong N K M a0 x1 1) a0)) → Go X (d + K + 13) mc ms kX9_runs Q 19 [(0, .ref a0), (1, .int (x1)), (2, .int (x2)), (3, .int (x3)), (4, .int ((x4 + 1)))] [] (g_wi (mX9_obeys N K (mX9_goesAlong N K M a0 x1 1) a0) a0 27 ((g_mi (mX9_obeys N K (mX9_goesAlong N K M a0 x1 1) a0) a0 27) + 1)) c z) (h8 : (¬ x2 ≤ x4) → (¬ (g_mi (mX9_goesAlong N K M a0 x1 1) a0 45) = 0) → (¬ (g_mi (mX9_goesAlong N K M a0 x1 1) a0 44) = 0) → (¬ 0 ≤ (fX9_obeys N K (mX9_goesAlong N K M a0 x1 1) a0)) → Q (some (.int (0))) (mX9_obeys N K (mX9_goesAlong N K M a0 x1 1) a0)) (h9 : (¬ x2 ≤ x4) → ((g_mi (mX9_goesAlong N K M a0 x1 1) a0 45) = 0) → Go X (d + K + 13) mc ms kX9_runs Q 19 [(0, .ref a0), (1, .int (x1)), (2, .int (x2)), (3, .int (x3)), (4, .int ((x4 + 1)))] [] (mX9_goesAlong N K M a0 x1 1) c z) : Go X (d + K + 13) mc ms kX9_runs Q 19 [(0, .ref a0), (1, .int (x1)), (2, .int (x2)), (3, .int (x3)), (4, .int (x4))] [] M c z := by
  refine g_iload 4 21 dX9_runs_19 rfl rfl ?_
  refine g_iload_n 2 22 dX9_runs_21 rfl rfl ?_
  refine g_icmp_ge 73 25 dX9_runs_22 rfl rfl (fun c1 => ?_) (fun c1 => ?_)
  · skip
    refine g_aload_n 0 74 dX9_runs_73 rfl rfl ?_
    refine g_iload_n 3 75 dX9_runs_74 rfl rfl ?_
    refine g_putI 78 dX9_runs_75 rfl flX9_440 s0.1 ?_
    refine g_iconst (1) 79 dX9_runs_78 rfl rfl ?_
    exact g_zret dX9_runs_79 rfl (by decide) (w2) (w3) (h1 c1)
  · skip
    refine g_aload_n 0 26 dX9_runs_25 rfl rfl ?_
    refine g_iload_n 1 27 dX9_runs_26 rfl rfl ?_
    refine g_iconst (1) 28 dX9_runs_27 rfl rfl ?_
    refine g_callV (mc1 := 0) (ms1 := 0) (b := a0) (rest := []) (av := [.int (x1), .int (1)]) kX9_goesAlong 31 dX9_runs_28 rfl rfl mbX9_467 imX9_goesAlong seX9_goesAlong gcl9.1 s0.1 (Nat.le_of_ble_eq_true rfl) (w2) (w3) (Cn.cd (show d + 5 + K + 7 = d + K + 12 by omega) (tX9_goesAlong (d := d + 5) (N := N) (K := K) s0 (b4 c1) ?_))
    show Go X (d + K + 13) mc ms kX9_runs Q 31 [(0, .ref a0), (1, .int (x1)), (2, .int (x2)), (3, .int (x3)), (4, .int (x4))] [] (mX9_goesAlong N K M a0 x1 1) c z
    refine g_aload_n 0 32 dX9_runs_31 rfl rfl ?_
    refine g_getI 35 dX9_runs_32 rfl flX9_458 (Sl.k (Sl.tr Sl.rf jX9_goesAlong) s0.1) ?_
    refine g_if_ne 41 38 dX9_runs_35 rfl rfl (fun c2 => ?_) (fun c2 => ?_)
    · skip
      refine g_aload_n 0 42 dX9_runs_41 rfl rfl ?_
      refine g_getI 45 dX9_runs_42 rfl flX9_452 (Sl.k (Sl.tr Sl.rf jX9_goesAlong) s0.1) ?_
      refine g_if_eq 55 48 dX9_runs_45 rfl rfl (fun c3 => ?_) (fun c3 => ?_)
      · skip
        refine g_iconst (0) 56 dX9_runs_55 rfl rfl ?_
        exact g_zret dX9_runs_56 rfl (by decide) (w2) (w3) (h5 c1 c2 c3)
      · skip
        refine g_aload_n 0 49 dX9_runs_48 rfl rfl ?_
        refine g_callV (mc1 := 0) (ms1 := 0) (b := a0) (rest := []) (av := []) kX9_obeys 52 dX9_runs_49 rfl rfl mbX9_471 imX9_obeys seX9_obeys gcl9.1 (Sl.k (Sl.tr Sl.rf jX9_goesAlong) s0.1) (Nat.le_of_ble_eq_true rfl) (w2) (w3) (tX9_obeys (N := N) (K := K) (Mo.sl (Sl.tr Sl.rf jX9_goesAlong) s0) (b6 c1 c2 c3) ?_)
        show Go X (d + K + 13) mc ms kX9_runs Q 52 [(0, .ref a0), (1, .int (x1)), (2, .int (x2)), (3, .int (x3)), (4, .int (x4))] [.int ((fX9_obeys N K (mX9_goesAlong N K M a0 x1 1) a0))] (mX9_obeys N K (mX9_goesAlong N K M a0 x1 1) a0) c z
        refine g_if_ge 57 55 dX9_runs_52 rfl rfl (fun c4 => ?_) (fun c4 => ?_)
        · skip
          refine g_aload_n 0 58 dX9_runs_57 rfl rfl ?_
          refine g_dup 59 dX9_runs_58 rfl rfl ?_
          refine g_getI 62 dX9_runs_59 rfl flX9_305 (Sl.k (Sl.tr (Sl.tr Sl.rf jX9_goesAlong) (Sm.l jX9_obeys)) s0.1) ?_
          refine g_iconst (1) 63 dX9_runs_62 rfl rfl ?_
          refine g_iadd 64 dX9_runs_63 rfl ?_
          refine g_putI 67 dX9_runs_64 rfl flX9_305 (Sl.k (Sl.tr (Sl.tr Sl.rf jX9_goesAlong) (Sm.l jX9_obeys)) s0.1) ?_
          refine g_iinc _ 4 70 [(4, .int ((x4 + 1))), (0, .ref a0), (1, .int (x1)), (2, .int (x2)), (3, .int (x3))] dX9_runs_67 rfl rfl rfl (Nat.le_of_ble_eq_true rfl) rfl ?_
          refine g_goto 19 dX9_runs_70 rfl ?_
          exact g_sub [1, 2, 3, 4, 0] _ rfl (h7 c1 c2 c3 c4)
        · skip
          refine g_iconst (0) 56 dX9_runs_55 rfl rfl ?_
          exact g_zret dX9_runs_56 rfl (by decide) (w2) (w3) (h8 c1 c2 c3 c4)
    · skip
      refine g_goto 67 dX9_runs_38 rfl ?_
      refine g_iinc _ 4 70 [(4, .int ((x4 + 1))), (0, .ref a0), (1, .int (x1)), (2, .int (x2)), (3, .int (x3))] dX9_runs_67 rfl rfl rfl (Nat.le_of_ble_eq_true rfl) rfl ?_
      refine g_goto 19 dX9_runs_70 rfl ?_
      exact g_sub [1, 2, 3, 4, 0] _ rfl (h9 c1 c2)

def bX9_runs_0 (N : Nat) (K : Nat) (M : gM) (a0 : Nat) (x1 : Int32) (k : Nat → (Nat → Nat → Int32) → (Nat → Nat → Int64) → Nat → Int32 → Int32 → Int32 → Int32 → Int32 × (Nat → Nat → Int32) × (Nat → Nat → Int64)) : Int32 × (Nat → Nat → Int32) × (Nat → Nat → Int64) := (k 0 (g_mi (mX9_goesAlong N K M a0 x1 0)) (g_ml (mX9_goesAlong N K M a0 x1 0)) a0 x1 (g_mi (mX9_goesAlong N K M a0 x1 0) a0 42) (g_mi (mX9_goesAlong N K M a0 x1 0) a0 22) 0)
def eX9_runs_0 (N : Nat) (K : Nat) (M : gM) (a0 : Nat) (x1 : Int32) (k : Nat → (Nat → Nat → Int32) → (Nat → Nat → Int64) → Nat → Int32 → Int32 → Int32 → Int32 → Prop) : Prop := (EX9_goesAlong N K M a0 x1 0) ∧ (k 0 (g_mi (mX9_goesAlong N K M a0 x1 0)) (g_ml (mX9_goesAlong N K M a0 x1 0)) a0 x1 (g_mi (mX9_goesAlong N K M a0 x1 0) a0 42) (g_mi (mX9_goesAlong N K M a0 x1 0) a0 22) 0)
def bX9_runs_19 (N : Nat) (K : Nat) (M : gM) (f : Nat → Nat → Int32) (g : Nat → Nat → Int64) (a0 : Nat) (x1 : Int32) (x2 : Int32) (x3 : Int32) (x4 : Int32) (k : Nat → (Nat → Nat → Int32) → (Nat → Nat → Int64) → Nat → Int32 → Int32 → Int32 → Int32 → Int32 × (Nat → Nat → Int32) × (Nat → Nat → Int64)) : Int32 × (Nat → Nat → Int32) × (Nat → Nat → Int64) := (if x2 ≤ x4 then (1, g_mi (g_wi (g_wm M f g) a0 41 x3), g_ml (g_wi (g_wm M f g) a0 41 x3)) else (if (g_mi (mX9_goesAlong N K (g_wm M f g) a0 x1 1) a0 45) = 0 then (k 0 (g_mi (mX9_goesAlong N K (g_wm M f g) a0 x1 1)) (g_ml (mX9_goesAlong N K (g_wm M f g) a0 x1 1)) a0 x1 x2 x3 (x4 + 1)) else (if (g_mi (mX9_goesAlong N K (g_wm M f g) a0 x1 1) a0 44) = 0 then (0, g_mi (mX9_goesAlong N K (g_wm M f g) a0 x1 1), g_ml (mX9_goesAlong N K (g_wm M f g) a0 x1 1)) else (if 0 ≤ (fX9_obeys N K (mX9_goesAlong N K (g_wm M f g) a0 x1 1) a0) then (k 0 (g_mi (g_wi (mX9_obeys N K (mX9_goesAlong N K (g_wm M f g) a0 x1 1) a0) a0 27 ((g_mi (mX9_obeys N K (mX9_goesAlong N K (g_wm M f g) a0 x1 1) a0) a0 27) + 1))) (g_ml (g_wi (mX9_obeys N K (mX9_goesAlong N K (g_wm M f g) a0 x1 1) a0) a0 27 ((g_mi (mX9_obeys N K (mX9_goesAlong N K (g_wm M f g) a0 x1 1) a0) a0 27) + 1))) a0 x1 x2 x3 (x4 + 1)) else (0, g_mi (mX9_obeys N K (mX9_goesAlong N K (g_wm M f g) a0 x1 1) a0), g_ml (mX9_obeys N K (mX9_goesAlong N K (g_wm M f g) a0 x1 1) a0))))))
def eX9_runs_19 (N : Nat) (K : Nat) (M : gM) (f : Nat → Nat → Int32) (g : Nat → Nat → Int64) (a0 : Nat) (x1 : Int32) (x2 : Int32) (x3 : Int32) (x4 : Int32) (k : Nat → (Nat → Nat → Int32) → (Nat → Nat → Int64) → Nat → Int32 → Int32 → Int32 → Int32 → Prop) : Prop := ((¬ x2 ≤ x4) → EX9_goesAlong N K (g_wm M f g) a0 x1 1) ∧ ((¬ x2 ≤ x4) → (¬ (g_mi (mX9_goesAlong N K (g_wm M f g) a0 x1 1) a0 45) = 0) → (¬ (g_mi (mX9_goesAlong N K (g_wm M f g) a0 x1 1) a0 44) = 0) → EX9_obeys N K (mX9_goesAlong N K (g_wm M f g) a0 x1 1) a0) ∧ (if x2 ≤ x4 then True else (if (g_mi (mX9_goesAlong N K (g_wm M f g) a0 x1 1) a0 45) = 0 then (k 0 (g_mi (mX9_goesAlong N K (g_wm M f g) a0 x1 1)) (g_ml (mX9_goesAlong N K (g_wm M f g) a0 x1 1)) a0 x1 x2 x3 (x4 + 1)) else (if (g_mi (mX9_goesAlong N K (g_wm M f g) a0 x1 1) a0 44) = 0 then True else (if 0 ≤ (fX9_obeys N K (mX9_goesAlong N K (g_wm M f g) a0 x1 1) a0) then (k 0 (g_mi (g_wi (mX9_obeys N K (mX9_goesAlong N K (g_wm M f g) a0 x1 1) a0) a0 27 ((g_mi (mX9_obeys N K (mX9_goesAlong N K (g_wm M f g) a0 x1 1) a0) a0 27) + 1))) (g_ml (g_wi (mX9_obeys N K (mX9_goesAlong N K (g_wm M f g) a0 x1 1) a0) a0 27 ((g_mi (mX9_obeys N K (mX9_goesAlong N K (g_wm M f g) a0 x1 1) a0) a0 27) + 1))) a0 x1 x2 x3 (x4 + 1)) else True))))
def wX9_runs (N : Nat) (K : Nat) (M : gM) : Nat → Nat → (Nat → Nat → Int32) → (Nat → Nat → Int64) → Nat → Int32 → Int32 → Int32 → Int32 → Int32 × (Nat → Nat → Int32) × (Nat → Nat → Int64)
  | 0, _, f, g, _, _, _, _, _ => (0, f, g)
  | n + 1, h, f, g, a0, x1, x2, x3, x4 => bX9_runs_19 N K M f g a0 x1 x2 x3 x4 (wX9_runs N K M n)
def vX9_runs (N : Nat) (K : Nat) (M : gM) : Nat → Nat → (Nat → Nat → Int32) → (Nat → Nat → Int64) → Nat → Int32 → Int32 → Int32 → Int32 → Prop
  | 0, _, _, _, _, _, _, _, _ => False
  | n + 1, h, f, g, a0, x1, x2, x3, x4 => eX9_runs_19 N K M f g a0 x1 x2 x3 x4 (vX9_runs N K M n)
set_option maxRecDepth 10000 in
theorem lpX9_runs {X : gX} {d mc ms : Nat} {Q : Option Value → gM → Prop} (N : Nat) (K : Nat) (M : gM) : ∀ n : Nat, (∀ (f : Nat → Nat → Int32) (g : Nat → Nat → Int64) (a0 : Nat) (x1 : Int32) (x2 : Int32) (x3 : Int32) (x4 : Int32), Mo M a0 → vX9_runs N K M n 0 f g a0 x1 x2 x3 x4 → Q (some (.int (wX9_runs N K M n 0 f g a0 x1 x2 x3 x4).1)) (g_wm M (wX9_runs N K M n 0 f g a0 x1 x2 x3 x4).2.1 (wX9_runs N K M n 0 f g a0 x1 x2 x3 x4).2.2) → Go X (d + K + 13) mc ms kX9_runs Q 19 [(0, .ref a0), (1, .int (x1)), (2, .int (x2)), (3, .int (x3)), (4, .int (x4))] [] (g_wm M f g) 0 0) := by
  intro n
  induction n with
  | zero => exact fun _ _ _ _ _ _ _ _ h _ => h.elim
  | succ n ih =>
    intro f g a0 x1 x2 x3 x4 s0 hT hQ
    rw [vX9_runs] at hT
    rw [wX9_runs] at hQ
    unfold bX9_runs_19 at hQ
    unfold eX9_runs_19 at hT
    obtain ⟨b4, b6, hT⟩ := hT
    exact sX9_runs_19 (M := (g_wm M f g)) (Mo.sl Sl.wm s0) (fun c1 => by simp only [if_pos c1] at hQ; exact Sl.q (Sl.tr Sl.wm (Sm.l (Sm.wi Sm.rf))) hQ) (Nat.zero_le _) (Nat.zero_le _) b4 (fun c1 c2 c3 => by simp only [if_neg c1, if_neg c2, if_pos c3] at hQ; exact Sl.q (Sl.tr Sl.wm (Sl.tr Sl.rf jX9_goesAlong)) hQ) b6 (fun c1 c2 c3 c4 => by simp only [if_neg c1, if_neg c2, if_neg c3, if_pos c4] at hQ hT; exact Sl.g (Sl.tr Sl.wm (Sl.wi (Sl.tr (Sl.tr Sl.rf jX9_goesAlong) (Sm.l jX9_obeys)))) (ih _ _ _ _ _ _ _ (s0) hT hQ)) (fun c1 c2 c3 c4 => by simp only [if_neg c1, if_neg c2, if_neg c3, if_neg c4] at hQ; exact Sl.q (Sl.tr Sl.wm (Sl.tr (Sl.tr Sl.rf jX9_goesAlong) (Sm.l jX9_obeys))) hQ) (fun c1 c2 => by simp only [if_neg c1, if_pos c2] at hQ hT; exact Sl.g (Sl.tr Sl.wm (Sl.tr Sl.rf jX9_goesAlong)) (ih _ _ _ _ _ _ _ (s0) hT hQ))
def fX9_runs (N : Nat) (K : Nat) (M : gM) (a0 : Nat) (x1 : Int32) : Int32 := (bX9_runs_0 N K M a0 x1 (wX9_runs N K M N)).1
def mX9_runs (N : Nat) (K : Nat) (M : gM) (a0 : Nat) (x1 : Int32) : gM := g_wm M (bX9_runs_0 N K M a0 x1 (wX9_runs N K M N)).2.1 (bX9_runs_0 N K M a0 x1 (wX9_runs N K M N)).2.2
theorem jX9_runs {N : Nat} {K : Nat} {M : gM} {a0 : Nat} {x1 : Int32} : Sl M (mX9_runs N K M a0 x1) := Sl.wm
def EX9_runs (N : Nat) (K : Nat) (M : gM) (a0 : Nat) (x1 : Int32) : Prop := eX9_runs_0 N K M a0 x1 (vX9_runs N K M N)
theorem tX9_runs {N : Nat} {K : Nat} {X : gX} {d mc ms : Nat} {Q : Option Value → gM → Prop} {M : gM} {a0 : Nat} {x1 : Int32} (s0 : Mo M a0) (hE : EX9_runs N K M a0 x1) (hQ : Q (some (.int (fX9_runs N K M a0 x1))) (mX9_runs N K M a0 x1)) : Cn X (d + K + 13) mc ms kX9_runs [.ref a0, .int (x1)] M Q := by
  unfold fX9_runs mX9_runs at hQ
  unfold bX9_runs_0 at hQ
  unfold EX9_runs eX9_runs_0 at hE
  obtain ⟨b1, hT⟩ := hE
  have ih := lpX9_runs (X := X) (d := d) (mc := mc) (ms := ms) (Q := Q) N K M N
  exact sX9_runs_0 s0 b1 (Sl.g (Sl.tr Sl.rf jX9_goesAlong) (ih _ _ _ _ _ _ _ (s0) hT hQ))
/-! X9_drawnAct  -/
set_option maxRecDepth 4000 in
theorem sX9_drawnAct_0 {N : Nat} {K : Nat} {X : gX} {d mc ms : Nat} {Q : Option Value → gM → Prop} {M : gM} {a0 : Nat} (s0 : Mo M a0) (b1 : EX9_draws M a0 40) (b2 : EX9_draws (mX9_draws M a0 40) a0 8) (b3 : ((fX9_draws (mX9_draws M a0 40) a0 8) = 5) → EX9_takesKey N (mX9_draws (mX9_draws M a0 40) a0 8) a0 (fX9_draws M a0 40)) (h4 : ((fX9_draws (mX9_draws M a0 40) a0 8) = 5) → Q none (mX9_takesKey N (mX9_draws (mX9_draws M a0 40) a0 8) a0 (fX9_draws M a0 40))) (b5 : (¬ (fX9_draws (mX9_draws M a0 40) a0 8) = 5) → ((fX9_draws (mX9_draws M a0 40) a0 8) = 6) → EX9_builds N K (mX9_draws (mX9_draws M a0 40) a0 8) a0) (h6 : (¬ (fX9_draws (mX9_draws M a0 40) a0 8) = 5) → ((fX9_draws (mX9_draws M a0 40) a0 8) = 6) → Q none (mX9_builds N K (mX9_draws (mX9_draws M a0 40) a0 8) a0)) (b7 : (¬ (fX9_draws (mX9_draws M a0 40) a0 8) = 5) → (¬ (fX9_draws (mX9_draws M a0 40) a0 8) = 6) → ((fX9_draws (mX9_draws M a0 40) a0 8) = 7) → EX9_builds N K (mX9_draws (mX9_draws M a0 40) a0 8) a0) (h8 : (¬ (fX9_draws (mX9_draws M a0 40) a0 8) = 5) → (¬ (fX9_draws (mX9_draws M a0 40) a0 8) = 6) → ((fX9_draws (mX9_draws M a0 40) a0 8) = 7) → Q none (mX9_builds N K (mX9_draws (mX9_draws M a0 40) a0 8) a0)) (b9 : (¬ (fX9_draws (mX9_draws M a0 40) a0 8) = 5) → (¬ (fX9_draws (mX9_draws M a0 40) a0 8) = 6) → (¬ (fX9_draws (mX9_draws M a0 40) a0 8) = 7) → EX9_adds N K (mX9_draws (mX9_draws M a0 40) a0 8) a0 (fX9_draws M a0 40)) (h10 : (¬ (fX9_draws (mX9_draws M a0 40) a0 8) = 5) → (¬ (fX9_draws (mX9_draws M a0 40) a0 8) = 6) → (¬ (fX9_draws (mX9_draws M a0 40) a0 8) = 7) → Q none (mX9_adds N K (mX9_draws (mX9_draws M a0 40) a0 8) a0 (fX9_draws M a0 40))) : Cn X (d + K + 11) mc ms kX9_drawnAct [.ref a0] M Q := by
  refine g_meth rfl rfl (Nat.le_of_ble_eq_true rfl) rfl ?_
  refine g_aload_n 0 1 dX9_drawnAct_0 rfl rfl ?_
  refine g_bipush (40) 3 dX9_drawnAct_1 rfl rfl ?_
  refine g_callV (mc1 := 0) (ms1 := 0) (b := a0) (rest := []) (av := [.int (40)]) kX9_draws 6 dX9_drawnAct_3 rfl rfl mbX9_483 imX9_draws seX9_draws gcl9.1 s0.1 (Nat.le_of_ble_eq_true rfl) (Nat.zero_le _) (Nat.zero_le _) (tX9_draws s0 (b1) ?_)
  show Go X (d + K + 11) mc ms kX9_drawnAct Q 6 [(0, .ref a0)] [.int ((fX9_draws M a0 40))] (mX9_draws M a0 40) 0 0
  refine g_istore_n 7 [(1, .int ((fX9_draws M a0 40))), (0, .ref a0)] dX9_drawnAct_6 rfl (Nat.le_of_ble_eq_true rfl) rfl ?_
  refine g_aload_n 1 8 dX9_drawnAct_7 rfl rfl ?_
  refine g_bipush (8) 10 dX9_drawnAct_8 rfl rfl ?_
  refine g_callV (mc1 := 0) (ms1 := 0) (b := a0) (rest := []) (av := [.int (8)]) kX9_draws 13 dX9_drawnAct_10 rfl rfl mbX9_483 imX9_draws seX9_draws gcl9.1 (Sm.k (Sm.tr Sm.rf jX9_draws) s0.1) (Nat.le_of_ble_eq_true rfl) (Nat.zero_le _) (Nat.zero_le _) (tX9_draws (Mo.sm (Sm.tr Sm.rf jX9_draws) s0) (b2) ?_)
  show Go X (d + K + 11) mc ms kX9_drawnAct Q 13 [(1, .int ((fX9_draws M a0 40))), (0, .ref a0)] [.int ((fX9_draws (mX9_draws M a0 40) a0 8))] (mX9_draws (mX9_draws M a0 40) a0 8) 0 0
  refine g_istore_n 14 [(2, .int ((fX9_draws (mX9_draws M a0 40) a0 8))), (1, .int ((fX9_draws M a0 40))), (0, .ref a0)] dX9_drawnAct_13 rfl (Nat.le_of_ble_eq_true rfl) rfl ?_
  refine g_iload_n 0 15 dX9_drawnAct_14 rfl rfl ?_
  by_cases c1 : (fX9_draws (mX9_draws M a0 40) a0 8) = 5
  · refine h_tabIn (5) 40 dX9_drawnAct_15 c1 (by decide) (by decide) rfl rfl ?_
    refine g_aload_n 2 41 dX9_drawnAct_40 rfl rfl ?_
    refine g_iload_n 1 42 dX9_drawnAct_41 rfl rfl ?_
    refine g_callV (mc1 := 0) (ms1 := 0) (b := a0) (rest := []) (av := [.int ((fX9_draws M a0 40))]) kX9_takesKey 45 dX9_drawnAct_42 rfl rfl mbX9_371 imX9_takesKey seX9_takesKey gcl9.1 (Sm.k (Sm.tr (Sm.tr Sm.rf jX9_draws) jX9_draws) s0.1) (Nat.le_of_ble_eq_true rfl) (Nat.zero_le _) (Nat.zero_le _) (tX9_takesKey (N := N) (Mo.sm (Sm.tr (Sm.tr Sm.rf jX9_draws) jX9_draws) s0) (b3 c1) ?_)
    show Go X (d + K + 11) mc ms kX9_drawnAct Q 45 [(2, .int ((fX9_draws (mX9_draws M a0 40) a0 8))), (1, .int ((fX9_draws M a0 40))), (0, .ref a0)] [.int ((fX9_takesKey N (mX9_draws (mX9_draws M a0 40) a0 8) a0 (fX9_draws M a0 40)))] (mX9_takesKey N (mX9_draws (mX9_draws M a0 40) a0 8) a0 (fX9_draws M a0 40)) 0 0
    refine g_pop 46 dX9_drawnAct_45 rfl rfl ?_
    refine g_goto 63 dX9_drawnAct_46 rfl ?_
    exact g_vret dX9_drawnAct_63 rfl (Nat.zero_le _) (Nat.zero_le _) (h4 c1)
  by_cases c2 : (fX9_draws (mX9_draws M a0 40) a0 8) = 6
  · refine h_tabIn (6) 49 dX9_drawnAct_15 c2 (by decide) (by decide) rfl rfl ?_
    refine g_aload_n 2 50 dX9_drawnAct_49 rfl rfl ?_
    refine g_callV (mc1 := 0) (ms1 := 0) (b := a0) (rest := []) (av := []) kX9_builds 53 dX9_drawnAct_50 rfl rfl mbX9_380 imX9_builds seX9_builds gcl9.1 (Sm.k (Sm.tr (Sm.tr Sm.rf jX9_draws) jX9_draws) s0.1) (Nat.le_of_ble_eq_true rfl) (Nat.zero_le _) (Nat.zero_le _) (tX9_builds (N := N) (K := K) (Mo.sm (Sm.tr (Sm.tr Sm.rf jX9_draws) jX9_draws) s0) (b5 c1 c2) ?_)
    show Go X (d + K + 11) mc ms kX9_drawnAct Q 53 [(2, .int ((fX9_draws (mX9_draws M a0 40) a0 8))), (1, .int ((fX9_draws M a0 40))), (0, .ref a0)] [.int ((fX9_builds N K (mX9_draws (mX9_draws M a0 40) a0 8) a0))] (mX9_builds N K (mX9_draws (mX9_draws M a0 40) a0 8) a0) 0 0
    refine g_pop 54 dX9_drawnAct_53 rfl rfl ?_
    refine g_goto 63 dX9_drawnAct_54 rfl ?_
    exact g_vret dX9_drawnAct_63 rfl (Nat.zero_le _) (Nat.zero_le _) (h6 c1 c2)
  by_cases c3 : (fX9_draws (mX9_draws M a0 40) a0 8) = 7
  · refine h_tabIn (7) 49 dX9_drawnAct_15 c3 (by decide) (by decide) rfl rfl ?_
    refine g_aload_n 2 50 dX9_drawnAct_49 rfl rfl ?_
    refine g_callV (mc1 := 0) (ms1 := 0) (b := a0) (rest := []) (av := []) kX9_builds 53 dX9_drawnAct_50 rfl rfl mbX9_380 imX9_builds seX9_builds gcl9.1 (Sm.k (Sm.tr (Sm.tr Sm.rf jX9_draws) jX9_draws) s0.1) (Nat.le_of_ble_eq_true rfl) (Nat.zero_le _) (Nat.zero_le _) (tX9_builds (N := N) (K := K) (Mo.sm (Sm.tr (Sm.tr Sm.rf jX9_draws) jX9_draws) s0) (b7 c1 c2 c3) ?_)
    show Go X (d + K + 11) mc ms kX9_drawnAct Q 53 [(2, .int ((fX9_draws (mX9_draws M a0 40) a0 8))), (1, .int ((fX9_draws M a0 40))), (0, .ref a0)] [.int ((fX9_builds N K (mX9_draws (mX9_draws M a0 40) a0 8) a0))] (mX9_builds N K (mX9_draws (mX9_draws M a0 40) a0 8) a0) 0 0
    refine g_pop 54 dX9_drawnAct_53 rfl rfl ?_
    refine g_goto 63 dX9_drawnAct_54 rfl ?_
    exact g_vret dX9_drawnAct_63 rfl (Nat.zero_le _) (Nat.zero_le _) (h8 c1 c2 c3)
  have tc1 := i_neT c1
  have tc2 := i_neT c2
  have tc3 := i_neT c3
  rw [show ((5 : Int32)).toInt = 5 from rfl] at tc1
  rw [show ((6 : Int32)).toInt = 6 from rfl] at tc2
  rw [show ((7 : Int32)).toInt = 7 from rfl] at tc3
  refine g_tableOut 57 dX9_drawnAct_15 (by omega) rfl ?_
  refine g_aload_n 2 58 dX9_drawnAct_57 rfl rfl ?_
  refine g_iload_n 1 59 dX9_drawnAct_58 rfl rfl ?_
  refine g_callV (mc1 := 0) (ms1 := 0) (b := a0) (rest := []) (av := [.int ((fX9_draws M a0 40))]) kX9_adds 62 dX9_drawnAct_59 rfl rfl mbX9_163 imX9_adds seX9_adds gcl9.1 (Sm.k (Sm.tr (Sm.tr Sm.rf jX9_draws) jX9_draws) s0.1) (Nat.le_of_ble_eq_true rfl) (Nat.zero_le _) (Nat.zero_le _) (Cn.cd (show d + 1 + K + 9 = d + K + 10 by omega) (tX9_adds (d := d + 1) (N := N) (K := K) (Mo.sm (Sm.tr (Sm.tr Sm.rf jX9_draws) jX9_draws) s0) (b9 c1 c2 c3) ?_))
  show Go X (d + K + 11) mc ms kX9_drawnAct Q 62 [(2, .int ((fX9_draws (mX9_draws M a0 40) a0 8))), (1, .int ((fX9_draws M a0 40))), (0, .ref a0)] [.int ((fX9_adds N K (mX9_draws (mX9_draws M a0 40) a0 8) a0 (fX9_draws M a0 40)))] (mX9_adds N K (mX9_draws (mX9_draws M a0 40) a0 8) a0 (fX9_draws M a0 40)) 0 0
  refine g_pop 63 dX9_drawnAct_62 rfl rfl ?_
  exact g_vret dX9_drawnAct_63 rfl (Nat.zero_le _) (Nat.zero_le _) (h10 c1 c2 c3)

def mX9_drawnAct (N : Nat) (K : Nat) (M : gM) (a0 : Nat) : gM := g_wm M (if (fX9_draws (mX9_draws M a0 40) a0 8) = 5 then (g_mi (mX9_takesKey N (mX9_draws (mX9_draws M a0 40) a0 8) a0 (fX9_draws M a0 40))) else (if (fX9_draws (mX9_draws M a0 40) a0 8) = 6 then (g_mi (mX9_builds N K (mX9_draws (mX9_draws M a0 40) a0 8) a0)) else (if (fX9_draws (mX9_draws M a0 40) a0 8) = 7 then (g_mi (mX9_builds N K (mX9_draws (mX9_draws M a0 40) a0 8) a0)) else (g_mi (mX9_adds N K (mX9_draws (mX9_draws M a0 40) a0 8) a0 (fX9_draws M a0 40)))))) (g_ml M)
def EX9_drawnAct (N : Nat) (K : Nat) (M : gM) (a0 : Nat) : Prop := (EX9_draws M a0 40) ∧ (EX9_draws (mX9_draws M a0 40) a0 8) ∧ (((fX9_draws (mX9_draws M a0 40) a0 8) = 5) → EX9_takesKey N (mX9_draws (mX9_draws M a0 40) a0 8) a0 (fX9_draws M a0 40)) ∧ ((¬ (fX9_draws (mX9_draws M a0 40) a0 8) = 5) → ((fX9_draws (mX9_draws M a0 40) a0 8) = 6) → EX9_builds N K (mX9_draws (mX9_draws M a0 40) a0 8) a0) ∧ ((¬ (fX9_draws (mX9_draws M a0 40) a0 8) = 5) → (¬ (fX9_draws (mX9_draws M a0 40) a0 8) = 6) → ((fX9_draws (mX9_draws M a0 40) a0 8) = 7) → EX9_builds N K (mX9_draws (mX9_draws M a0 40) a0 8) a0) ∧ ((¬ (fX9_draws (mX9_draws M a0 40) a0 8) = 5) → (¬ (fX9_draws (mX9_draws M a0 40) a0 8) = 6) → (¬ (fX9_draws (mX9_draws M a0 40) a0 8) = 7) → EX9_adds N K (mX9_draws (mX9_draws M a0 40) a0 8) a0 (fX9_draws M a0 40))
theorem jX9_drawnAct {N : Nat} {K : Nat} {M : gM} {a0 : Nat} : Sm M (mX9_drawnAct N K M a0) := Sm.wm
theorem tX9_drawnAct {N : Nat} {K : Nat} {X : gX} {d mc ms : Nat} {Q : Option Value → gM → Prop} {M : gM} {a0 : Nat} (s0 : Mo M a0) (hE : EX9_drawnAct N K M a0) (hQ : Q none (mX9_drawnAct N K M a0)) : Cn X (d + K + 11) mc ms kX9_drawnAct [.ref a0] M Q := by
  unfold mX9_drawnAct at hQ
  obtain ⟨b1, b2, b3, b5, b7, b9⟩ := hE
  exact sX9_drawnAct_0 s0 b1 b2 b3 (fun c1 => by simp only [if_pos c1] at hQ; exact Sm.q (Sm.tr (Sm.tr (Sm.tr Sm.rf jX9_draws) jX9_draws) jX9_takesKey) hQ) b5 (fun c1 c2 => by simp only [if_neg c1, if_pos c2] at hQ; exact Sm.q (Sm.tr (Sm.tr (Sm.tr Sm.rf jX9_draws) jX9_draws) jX9_builds) hQ) b7 (fun c1 c2 c3 => by simp only [if_neg c1, if_neg c2, if_pos c3] at hQ; exact Sm.q (Sm.tr (Sm.tr (Sm.tr Sm.rf jX9_draws) jX9_draws) jX9_builds) hQ) b9 (fun c1 c2 c3 => by simp only [if_neg c1, if_neg c2, if_neg c3] at hQ; exact Sm.q (Sm.tr (Sm.tr (Sm.tr Sm.rf jX9_draws) jX9_draws) jX9_adds) hQ)
/-! X9_years  -/
set_option maxRecDepth 4000 in
theorem sX9_years_0 {N : Nat} {K : Nat} {X : gX} {d mc ms : Nat} {Q : Option Value → gM → Prop} {M : gM} {a0 : Nat} {x1 : Int32} {x2 : Int32} (s0 : Mo M a0) (b1 : ((fX9_lies x1 0 1000000) = 0) → EX9_refuses M a0 (-1)) (h2 : ((fX9_lies x1 0 1000000) = 0) → Q (some (.int ((fX9_refuses a0 (-1))))) (mX9_refuses M a0 (-1))) (b3 : (¬ (fX9_lies x1 0 1000000) = 0) → (¬ (fX9_lies x2 1 60) = 0) → EX9_laysAside N (g_wi (g_wi M a0 49 x1) a0 48 1) a0 0) (h4 : (¬ (fX9_lies x1 0 1000000) = 0) → (¬ (fX9_lies x2 1 60) = 0) → Go X (d + K + 12) mc ms kX9_years Q 43 [(0, .ref a0), (2, .int (x2)), (3, .int (0))] [] (mX9_laysAside N (g_wi (g_wi M a0 49 x1) a0 48 1) a0 0) 0 0) (b5 : (¬ (fX9_lies x1 0 1000000) = 0) → ((fX9_lies x2 1 60) = 0) → EX9_refuses M a0 (-1)) (h6 : (¬ (fX9_lies x1 0 1000000) = 0) → ((fX9_lies x2 1 60) = 0) → Q (some (.int ((fX9_refuses a0 (-1))))) (mX9_refuses M a0 (-1))) : Cn X (d + K + 12) mc ms kX9_years [.ref a0, .int (x1), .int (x2)] M Q := by
  refine g_meth rfl rfl (Nat.le_of_ble_eq_true rfl) rfl ?_
  refine g_iload_n 1 1 dX9_years_0 rfl rfl ?_
  refine g_iconst (0) 2 dX9_years_1 rfl rfl ?_
  refine g_ldc (1000000) 4 dX9_years_2 rfl q6_128 ?_
  refine g_callS (mc1 := 0) (ms1 := 0) (rest := []) (av := [.int (x1), .int (0), .int (1000000)]) kX9_lies 7 dX9_years_4 rfl rfl mbX9_18 smX9_lies (Nat.le_of_ble_eq_true rfl) (Nat.zero_le _) (Nat.zero_le _) (tX9_lies  ?_)
  show Go X (d + K + 12) mc ms kX9_years Q 7 [(0, .ref a0), (1, .int (x1)), (2, .int (x2))] [.int ((fX9_lies x1 0 1000000))] M 0 0
  refine g_if_eq 20 10 dX9_years_7 rfl rfl (fun c1 => ?_) (fun c1 => ?_)
  · skip
    refine g_aload_n 0 21 dX9_years_20 rfl rfl ?_
    refine g_iconst ((-1)) 22 dX9_years_21 rfl rfl ?_
    refine g_callV (mc1 := 0) (ms1 := 0) (b := a0) (rest := []) (av := [.int ((-1))]) kX9_refuses 25 dX9_years_22 rfl rfl mbX9_103 imX9_refuses seX9_refuses gcl9.1 s0.1 (Nat.le_of_ble_eq_true rfl) (Nat.zero_le _) (Nat.zero_le _) (tX9_refuses s0 (b1 c1) ?_)
    show Go X (d + K + 12) mc ms kX9_years Q 25 [(0, .ref a0), (1, .int (x1)), (2, .int (x2))] [.int ((fX9_refuses a0 (-1)))] (mX9_refuses M a0 (-1)) 0 0
    exact g_iret dX9_years_25 rfl (Nat.zero_le _) (Nat.zero_le _) (h2 c1)
  · skip
    refine g_iload_n 2 11 dX9_years_10 rfl rfl ?_
    refine g_iconst (1) 12 dX9_years_11 rfl rfl ?_
    refine g_bipush (60) 14 dX9_years_12 rfl rfl ?_
    refine g_callS (mc1 := 0) (ms1 := 0) (rest := []) (av := [.int (x2), .int (1), .int (60)]) kX9_lies 17 dX9_years_14 rfl rfl mbX9_18 smX9_lies (Nat.le_of_ble_eq_true rfl) (Nat.zero_le _) (Nat.zero_le _) (tX9_lies  ?_)
    show Go X (d + K + 12) mc ms kX9_years Q 17 [(0, .ref a0), (1, .int (x1)), (2, .int (x2))] [.int ((fX9_lies x2 1 60))] M 0 0
    refine g_if_ne 26 20 dX9_years_17 rfl rfl (fun c2 => ?_) (fun c2 => ?_)
    · skip
      refine g_aload_n 0 27 dX9_years_26 rfl rfl ?_
      refine g_iload_n 1 28 dX9_years_27 rfl rfl ?_
      refine g_putI 31 dX9_years_28 rfl flX9_476 s0.1 ?_
      refine g_aload_n 0 32 dX9_years_31 rfl rfl ?_
      refine g_iconst (1) 33 dX9_years_32 rfl rfl ?_
      refine g_putZ 36 dX9_years_33 rfl flX9_486 (Sm.k (Sm.wi Sm.rf) s0.1) (by decide) ?_
      refine g_aload_n 0 37 dX9_years_36 rfl rfl ?_
      refine g_iconst (0) 38 dX9_years_37 rfl rfl ?_
      refine g_callV (mc1 := 0) (ms1 := 0) (b := a0) (rest := []) (av := [.int (0)]) kX9_laysAside 41 dX9_years_38 rfl rfl mbX9_365 imX9_laysAside seX9_laysAside gcl9.1 (Sm.k (Sm.wi (Sm.wi Sm.rf)) s0.1) (Nat.le_of_ble_eq_true rfl) (Nat.zero_le _) (Nat.zero_le _) (tX9_laysAside (N := N) (Mo.sm (Sm.wi (Sm.wi Sm.rf)) s0) (b3 c1 c2) ?_)
      show Go X (d + K + 12) mc ms kX9_years Q 41 [(0, .ref a0), (1, .int (x1)), (2, .int (x2))] [] (mX9_laysAside N (g_wi (g_wi M a0 49 x1) a0 48 1) a0 0) 0 0
      refine g_iconst (0) 42 dX9_years_41 rfl rfl ?_
      refine g_istore_n 43 [(3, .int (0)), (0, .ref a0), (1, .int (x1)), (2, .int (x2))] dX9_years_42 rfl (Nat.le_of_ble_eq_true rfl) rfl ?_
      exact g_sub [1, 3, 0] _ rfl (h4 c1 c2)
    · skip
      refine g_aload_n 0 21 dX9_years_20 rfl rfl ?_
      refine g_iconst ((-1)) 22 dX9_years_21 rfl rfl ?_
      refine g_callV (mc1 := 0) (ms1 := 0) (b := a0) (rest := []) (av := [.int ((-1))]) kX9_refuses 25 dX9_years_22 rfl rfl mbX9_103 imX9_refuses seX9_refuses gcl9.1 s0.1 (Nat.le_of_ble_eq_true rfl) (Nat.zero_le _) (Nat.zero_le _) (tX9_refuses s0 (b5 c1 c2) ?_)
      show Go X (d + K + 12) mc ms kX9_years Q 25 [(0, .ref a0), (1, .int (x1)), (2, .int (x2))] [.int ((fX9_refuses a0 (-1)))] (mX9_refuses M a0 (-1)) 0 0
      exact g_iret dX9_years_25 rfl (Nat.zero_le _) (Nat.zero_le _) (h6 c1 c2)

set_option maxRecDepth 4000 in
theorem sX9_years_43 {N : Nat} {K : Nat} {X : gX} {d mc ms : Nat} {Q : Option Value → gM → Prop} {M : gM} {c z : Nat} {a0 : Nat} {x2 : Int32} {x3 : Int32} (s0 : Mo M a0) (h1 : (x2 ≤ x3) → Go X (d + K + 12) mc ms kX9_years Q 68 [(0, .ref a0), (3, .int ((g_mi M (a0 + 2) 0))), (4, .int (0))] [] M c z) (w2 : c ≤ mc) (w3 : z ≤ ms) (b4 : (¬ x2 ≤ x3) → EX9_drawnAct N K M a0) (h5 : (¬ x2 ≤ x3) → Go X (d + K + 12) mc ms kX9_years Q 43 [(0, .ref a0), (2, .int (x2)), (3, .int ((x3 + 1)))] [] (mX9_drawnAct N K M a0) c z) : Go X (d + K + 12) mc ms kX9_years Q 43 [(0, .ref a0), (2, .int (x2)), (3, .int (x3))] [] M c z := by
  refine g_iload_n 2 44 dX9_years_43 rfl rfl ?_
  refine g_iload_n 1 45 dX9_years_44 rfl rfl ?_
  refine g_icmp_ge 58 48 dX9_years_45 rfl rfl (fun c1 => ?_) (fun c1 => ?_)
  · skip
    refine g_aload_n 0 59 dX9_years_58 rfl rfl ?_
    refine g_getR 62 (a0 + 2) dX9_years_59 rfl flX9_28 s0.1 s0.2.2.2.1 ?_
    refine g_iconst (0) 63 dX9_years_62 rfl rfl ?_
    refine h_iaload 64 0 dX9_years_63 rfl rfl s0.2.2.2.2.1 (vp_lit rfl) ?_
    refine g_istore_n 65 [(3, .int ((g_mi M (a0 + 2) 0))), (0, .ref a0), (2, .int (x2))] dX9_years_64 rfl (Nat.le_of_ble_eq_true rfl) rfl ?_
    refine g_iconst (0) 66 dX9_years_65 rfl rfl ?_
    refine g_istore 68 [(4, .int (0)), (3, .int ((g_mi M (a0 + 2) 0))), (0, .ref a0), (2, .int (x2))] dX9_years_66 rfl (Nat.le_of_ble_eq_true rfl) rfl ?_
    exact g_sub [2, 1, 0] _ rfl (h1 c1)
  · skip
    refine g_aload_n 0 49 dX9_years_48 rfl rfl ?_
    refine g_callV (mc1 := 0) (ms1 := 0) (b := a0) (rest := []) (av := []) kX9_drawnAct 52 dX9_years_49 rfl rfl mbX9_489 imX9_drawnAct seX9_drawnAct gcl9.1 s0.1 (Nat.le_of_ble_eq_true rfl) (w2) (w3) (tX9_drawnAct (N := N) (K := K) s0 (b4 c1) ?_)
    show Go X (d + K + 12) mc ms kX9_years Q 52 [(0, .ref a0), (2, .int (x2)), (3, .int (x3))] [] (mX9_drawnAct N K M a0) c z
    refine g_iinc _ 2 55 [(3, .int ((x3 + 1))), (0, .ref a0), (2, .int (x2))] dX9_years_52 rfl rfl rfl (Nat.le_of_ble_eq_true rfl) rfl ?_
    refine g_goto 43 dX9_years_55 rfl ?_
    exact g_sub [1, 2, 0] _ rfl (h5 c1)

set_option maxRecDepth 4000 in
theorem sX9_years_68 {N : Nat} {K : Nat} {X : gX} {d mc ms : Nat} {Q : Option Value → gM → Prop} {M : gM} {c z : Nat} {a0 : Nat} {x3 : Int32} {x4 : Int32} (s0 : Mo M a0) (w1 : c ≤ mc) (w2 : z ≤ ms) (b3 : (40 ≤ x4) → EX9_takesBack N M a0 0) (h4 : (40 ≤ x4) → Q (some (.int ((fX9_good0 a0 x3)))) (mX9_good0 (mX9_takesBack N M a0 0) a0 x3)) (b5 : (¬ 40 ≤ x4) → EX9_found N M a0 x4 1) (b6 : (¬ 40 ≤ x4) → vp_in (x4) 40) (h7 : (¬ 40 ≤ x4) → Go X (d + K + 12) mc ms kX9_years Q 68 [(0, .ref a0), (3, .int (x3)), (4, .int ((x4 + 1)))] [] (g_wi M (a0 + 23) (x4).toNatClampNeg (fX9_found N M a0 x4 1)) c z) : Go X (d + K + 12) mc ms kX9_years Q 68 [(0, .ref a0), (3, .int (x3)), (4, .int (x4))] [] M c z := by
  refine g_iload 2 70 dX9_years_68 rfl rfl ?_
  refine g_bipush (40) 72 dX9_years_70 rfl rfl ?_
  refine g_icmp_ge 95 75 dX9_years_72 rfl rfl (fun c1 => ?_) (fun c1 => ?_)
  · skip
    refine g_aload_n 0 96 dX9_years_95 rfl rfl ?_
    refine g_iconst (0) 97 dX9_years_96 rfl rfl ?_
    refine g_callV (mc1 := 0) (ms1 := 0) (b := a0) (rest := []) (av := [.int (0)]) kX9_takesBack 100 dX9_years_97 rfl rfl mbX9_446 imX9_takesBack seX9_takesBack gcl9.1 s0.1 (Nat.le_of_ble_eq_true rfl) (w1) (w2) (tX9_takesBack (N := N) s0 (b3 c1) ?_)
    show Go X (d + K + 12) mc ms kX9_years Q 100 [(0, .ref a0), (3, .int (x3)), (4, .int (x4))] [] (mX9_takesBack N M a0 0) c z
    refine g_aload_n 0 101 dX9_years_100 rfl rfl ?_
    refine g_iload_n 1 102 dX9_years_101 rfl rfl ?_
    refine g_callV (mc1 := 0) (ms1 := 0) (b := a0) (rest := []) (av := [.int (x3)]) kX9_good0 105 dX9_years_102 rfl rfl mbX9_14 imX9_good0 seX9_good0 gcl9.1 (Sm.k (Sm.tr Sm.rf jX9_takesBack) s0.1) (Nat.le_of_ble_eq_true rfl) (w1) (w2) (tX9_good0 (Mo.sm (Sm.tr Sm.rf jX9_takesBack) s0) ?_)
    show Go X (d + K + 12) mc ms kX9_years Q 105 [(0, .ref a0), (3, .int (x3)), (4, .int (x4))] [.int ((fX9_good0 a0 x3))] (mX9_good0 (mX9_takesBack N M a0 0) a0 x3) c z
    exact g_iret dX9_years_105 rfl (w1) (w2) (h4 c1)
  · skip
    refine g_aload_n 0 76 dX9_years_75 rfl rfl ?_
    refine g_getR 79 (a0 + 23) dX9_years_76 rfl flX9_100 s0.1 s0.2.2.2.2.2.2.2.2.2.2.2.2.2.2.2.2.2.2.2.2.2.2.2.2.2.2.2.2.2.2.2.2.2.2.2.2.2.2.2.2.2.2.2.2.2.1 ?_
    refine g_iload 2 81 dX9_years_79 rfl rfl ?_
    refine g_aload_n 0 82 dX9_years_81 rfl rfl ?_
    refine g_iload 2 84 dX9_years_82 rfl rfl ?_
    refine g_iconst (1) 85 dX9_years_84 rfl rfl ?_
    refine g_callV (mc1 := 0) (ms1 := 0) (b := a0) (rest := [.int (x4), .ref (a0 + 23)]) (av := [.int (x4), .int (1)]) kX9_found 88 dX9_years_85 rfl rfl mbX9_311 imX9_found seX9_found gcl9.1 s0.1 (Nat.le_of_ble_eq_true rfl) (w1) (w2) (tX9_found (N := N) s0 (b5 c1) ?_)
    show Go X (d + K + 12) mc ms kX9_years Q 88 [(0, .ref a0), (3, .int (x3)), (4, .int (x4))] [.int ((fX9_found N M a0 x4 1)), .int (x4), .ref (a0 + 23)] M c z
    refine h_iastore 89 (x4).toNatClampNeg dX9_years_88 rfl rfl s0.2.2.2.2.2.2.2.2.2.2.2.2.2.2.2.2.2.2.2.2.2.2.2.2.2.2.2.2.2.2.2.2.2.2.2.2.2.2.2.2.2.2.2.2.2.2 (b6 c1) ?_
    refine g_iinc _ 2 92 [(4, .int ((x4 + 1))), (0, .ref a0), (3, .int (x3))] dX9_years_89 rfl rfl rfl (Nat.le_of_ble_eq_true rfl) rfl ?_
    refine g_goto 68 dX9_years_92 rfl ?_
    exact g_sub [1, 2, 0] _ rfl (h7 c1)

def bX9_years_0 (N : Nat) (K : Nat) (M : gM) (a0 : Nat) (x1 : Int32) (x2 : Int32) (k : Nat → (Nat → Nat → Int32) → Nat → Int32 → Int32 → Int32 → Int32 × (Nat → Nat → Int32)) : Int32 × (Nat → Nat → Int32) := (if (fX9_lies x1 0 1000000) = 0 then ((fX9_refuses a0 (-1)), g_mi (mX9_refuses M a0 (-1))) else (if (fX9_lies x2 1 60) = 0 then ((fX9_refuses a0 (-1)), g_mi (mX9_refuses M a0 (-1))) else (k 0 (g_mi (mX9_laysAside N (g_wi (g_wi M a0 49 x1) a0 48 1) a0 0)) a0 x2 0 0)))
def eX9_years_0 (N : Nat) (K : Nat) (M : gM) (a0 : Nat) (x1 : Int32) (x2 : Int32) (k : Nat → (Nat → Nat → Int32) → Nat → Int32 → Int32 → Int32 → Prop) : Prop := (((fX9_lies x1 0 1000000) = 0) → EX9_refuses M a0 (-1)) ∧ ((¬ (fX9_lies x1 0 1000000) = 0) → (¬ (fX9_lies x2 1 60) = 0) → EX9_laysAside N (g_wi (g_wi M a0 49 x1) a0 48 1) a0 0) ∧ ((¬ (fX9_lies x1 0 1000000) = 0) → ((fX9_lies x2 1 60) = 0) → EX9_refuses M a0 (-1)) ∧ (if (fX9_lies x1 0 1000000) = 0 then True else (if (fX9_lies x2 1 60) = 0 then True else (k 0 (g_mi (mX9_laysAside N (g_wi (g_wi M a0 49 x1) a0 48 1) a0 0)) a0 x2 0 0)))
def bX9_years_43 (N : Nat) (K : Nat) (M : gM) (f : Nat → Nat → Int32) (a0 : Nat) (x2 : Int32) (x3 : Int32) (k : Nat → (Nat → Nat → Int32) → Nat → Int32 → Int32 → Int32 → Int32 × (Nat → Nat → Int32)) : Int32 × (Nat → Nat → Int32) := (if x2 ≤ x3 then (k 1 (g_mi (g_wm M f (g_ml M))) a0 0 (g_mi (g_wm M f (g_ml M)) (a0 + 2) 0) 0) else (k 0 (g_mi (mX9_drawnAct N K (g_wm M f (g_ml M)) a0)) a0 x2 (x3 + 1) 0))
def eX9_years_43 (N : Nat) (K : Nat) (M : gM) (f : Nat → Nat → Int32) (a0 : Nat) (x2 : Int32) (x3 : Int32) (k : Nat → (Nat → Nat → Int32) → Nat → Int32 → Int32 → Int32 → Prop) : Prop := ((¬ x2 ≤ x3) → EX9_drawnAct N K (g_wm M f (g_ml M)) a0) ∧ (if x2 ≤ x3 then (k 1 (g_mi (g_wm M f (g_ml M))) a0 0 (g_mi (g_wm M f (g_ml M)) (a0 + 2) 0) 0) else (k 0 (g_mi (mX9_drawnAct N K (g_wm M f (g_ml M)) a0)) a0 x2 (x3 + 1) 0))
def bX9_years_68 (N : Nat) (K : Nat) (M : gM) (f : Nat → Nat → Int32) (a0 : Nat) (x3 : Int32) (x4 : Int32) (k : Nat → (Nat → Nat → Int32) → Nat → Int32 → Int32 → Int32 → Int32 × (Nat → Nat → Int32)) : Int32 × (Nat → Nat → Int32) := (if 40 ≤ x4 then ((fX9_good0 a0 x3), g_mi (mX9_good0 (mX9_takesBack N (g_wm M f (g_ml M)) a0 0) a0 x3)) else (k 1 (g_mi (g_wi (g_wm M f (g_ml M)) (a0 + 23) (x4).toNatClampNeg (fX9_found N (g_wm M f (g_ml M)) a0 x4 1))) a0 0 x3 (x4 + 1)))
def eX9_years_68 (N : Nat) (K : Nat) (M : gM) (f : Nat → Nat → Int32) (a0 : Nat) (x3 : Int32) (x4 : Int32) (k : Nat → (Nat → Nat → Int32) → Nat → Int32 → Int32 → Int32 → Prop) : Prop := ((40 ≤ x4) → EX9_takesBack N (g_wm M f (g_ml M)) a0 0) ∧ ((¬ 40 ≤ x4) → EX9_found N (g_wm M f (g_ml M)) a0 x4 1) ∧ ((¬ 40 ≤ x4) → vp_in (x4) 40) ∧ (if 40 ≤ x4 then True else (k 1 (g_mi (g_wi (g_wm M f (g_ml M)) (a0 + 23) (x4).toNatClampNeg (fX9_found N (g_wm M f (g_ml M)) a0 x4 1))) a0 0 x3 (x4 + 1)))
def wX9_years (N : Nat) (K : Nat) (M : gM) : Nat → Nat → (Nat → Nat → Int32) → Nat → Int32 → Int32 → Int32 → Int32 × (Nat → Nat → Int32)
  | 0, _, f, _, _, _, _ => (0, f)
  | n + 1, h, f, a0, x2, x3, x4 => if h = 0 then bX9_years_43 N K M f a0 x2 x3 (wX9_years N K M n) else bX9_years_68 N K M f a0 x3 x4 (wX9_years N K M n)
def vX9_years (N : Nat) (K : Nat) (M : gM) : Nat → Nat → (Nat → Nat → Int32) → Nat → Int32 → Int32 → Int32 → Prop
  | 0, _, _, _, _, _, _ => False
  | n + 1, h, f, a0, x2, x3, x4 => if h = 0 then eX9_years_43 N K M f a0 x2 x3 (vX9_years N K M n) else eX9_years_68 N K M f a0 x3 x4 (vX9_years N K M n)
set_option maxRecDepth 10000 in
theorem lpX9_years {X : gX} {d mc ms : Nat} {Q : Option Value → gM → Prop} (N : Nat) (K : Nat) (M : gM) : ∀ n : Nat, (∀ (f : Nat → Nat → Int32) (a0 : Nat) (x2 : Int32) (x3 : Int32) (x4 : Int32), Mo M a0 → vX9_years N K M n 0 f a0 x2 x3 x4 → Q (some (.int (wX9_years N K M n 0 f a0 x2 x3 x4).1)) (g_wm M (wX9_years N K M n 0 f a0 x2 x3 x4).2 (g_ml M)) → Go X (d + K + 12) mc ms kX9_years Q 43 [(0, .ref a0), (2, .int (x2)), (3, .int (x3))] [] (g_wm M f (g_ml M)) 0 0) ∧ (∀ (f : Nat → Nat → Int32) (a0 : Nat) (x2 : Int32) (x3 : Int32) (x4 : Int32), Mo M a0 → vX9_years N K M n 1 f a0 x2 x3 x4 → Q (some (.int (wX9_years N K M n 1 f a0 x2 x3 x4).1)) (g_wm M (wX9_years N K M n 1 f a0 x2 x3 x4).2 (g_ml M)) → Go X (d + K + 12) mc ms kX9_years Q 68 [(0, .ref a0), (3, .int (x3)), (4, .int (x4))] [] (g_wm M f (g_ml M)) 0 0) := by
  intro n
  induction n with
  | zero => exact ⟨fun _ _ _ _ _ _ h _ => h.elim, fun _ _ _ _ _ _ h _ => h.elim⟩
  | succ n ih =>
    refine ⟨?_, ?_⟩
    · intro f a0 x2 x3 x4 s0 hT hQ
      rw [vX9_years, if_pos (show (0 : Nat) = 0 from rfl)] at hT
      rw [wX9_years, if_pos (show (0 : Nat) = 0 from rfl)] at hQ
      unfold bX9_years_43 at hQ
      unfold eX9_years_43 at hT
      obtain ⟨b4, hT⟩ := hT
      exact sX9_years_43 (M := (g_wm M f (g_ml M))) (Mo.sm Sm.wm s0) (fun c1 => by simp only [if_pos c1] at hQ hT; exact Sm.g Sm.wm (ih.2 _ _ _ _ _ (s0) hT hQ)) (Nat.zero_le _) (Nat.zero_le _) b4 (fun c1 => by simp only [if_neg c1] at hQ hT; exact Sm.g (Sm.tr Sm.wm (Sm.tr Sm.rf jX9_drawnAct)) (ih.1 _ _ _ _ _ (s0) hT hQ))
    · intro f a0 x2 x3 x4 s0 hT hQ
      rw [vX9_years, if_neg (show ¬ (1 : Nat) = 0 by decide)] at hT
      rw [wX9_years, if_neg (show ¬ (1 : Nat) = 0 by decide)] at hQ
      unfold bX9_years_68 at hQ
      unfold eX9_years_68 at hT
      obtain ⟨b3, b5, b6, hT⟩ := hT
      exact sX9_years_68 (M := (g_wm M f (g_ml M))) (Mo.sm Sm.wm s0) (Nat.zero_le _) (Nat.zero_le _) b3 (fun c1 => by simp only [if_pos c1] at hQ; exact Sm.q (Sm.tr Sm.wm (Sm.tr (Sm.tr Sm.rf jX9_takesBack) jX9_good0)) hQ) b5 b6 (fun c1 => by simp only [if_neg c1] at hQ hT; exact Sm.g (Sm.tr Sm.wm (Sm.wi Sm.rf)) (ih.2 _ _ _ _ _ (s0) hT hQ))
def fX9_years (N : Nat) (K : Nat) (M : gM) (a0 : Nat) (x1 : Int32) (x2 : Int32) : Int32 := (bX9_years_0 N K M a0 x1 x2 (wX9_years N K M N)).1
def mX9_years (N : Nat) (K : Nat) (M : gM) (a0 : Nat) (x1 : Int32) (x2 : Int32) : gM := g_wm M (bX9_years_0 N K M a0 x1 x2 (wX9_years N K M N)).2 (g_ml M)
theorem jX9_years {N : Nat} {K : Nat} {M : gM} {a0 : Nat} {x1 : Int32} {x2 : Int32} : Sm M (mX9_years N K M a0 x1 x2) := Sm.wm
def EX9_years (N : Nat) (K : Nat) (M : gM) (a0 : Nat) (x1 : Int32) (x2 : Int32) : Prop := eX9_years_0 N K M a0 x1 x2 (vX9_years N K M N)
theorem tX9_years {N : Nat} {K : Nat} {X : gX} {d mc ms : Nat} {Q : Option Value → gM → Prop} {M : gM} {a0 : Nat} {x1 : Int32} {x2 : Int32} (s0 : Mo M a0) (hE : EX9_years N K M a0 x1 x2) (hQ : Q (some (.int (fX9_years N K M a0 x1 x2))) (mX9_years N K M a0 x1 x2)) : Cn X (d + K + 12) mc ms kX9_years [.ref a0, .int (x1), .int (x2)] M Q := by
  unfold fX9_years mX9_years at hQ
  unfold bX9_years_0 at hQ
  unfold EX9_years eX9_years_0 at hE
  obtain ⟨b1, b3, b5, hT⟩ := hE
  have ih := lpX9_years (X := X) (d := d) (mc := mc) (ms := ms) (Q := Q) N K M N
  exact sX9_years_0 s0 b1 (fun c1 => by simp only [if_pos c1] at hQ; exact Sm.q (Sm.tr Sm.rf jX9_refuses) hQ) b3 (fun c1 c2 => by simp only [if_neg c1, if_neg c2] at hQ hT; exact Sm.g (Sm.tr (Sm.wi (Sm.wi Sm.rf)) jX9_laysAside) (ih.1 _ _ _ _ _ (s0) hT hQ)) b5 (fun c1 c2 => by simp only [if_neg c1, if_pos c2] at hQ; exact Sm.q (Sm.tr Sm.rf jX9_refuses) hQ)
/-! X9_key  -/
set_option maxRecDepth 4000 in
theorem sX9_key_0 {N : Nat} {K : Nat} {X : gX} {d mc ms : Nat} {Q : Option Value → gM → Prop} {M : gM} {a0 : Nat} {x1 : Int32} {x2 : Int32} (s0 : Mo M a0) (b1 : EX9_isKey M x1) (b2 : (¬ (fX9_isKey x1) = 0) → (x2 = 0) → EX9_isThere N M a0 x1) (h3 : (¬ (fX9_isKey x1) = 0) → (x2 = 0) → ((fX9_isThere N M a0 x1) = 0) → Q (some (.int (0))) M) (h4 : (¬ (fX9_isKey x1) = 0) → (x2 = 0) → (¬ (fX9_isThere N M a0 x1) = 0) → Q (some (.int (1))) M) (b5 : (¬ (fX9_isKey x1) = 0) → (¬ x2 = 0) → (x2 = 1) → EX9_isBarred N K M a0 x1) (h6 : (¬ (fX9_isKey x1) = 0) → (¬ x2 = 0) → (x2 = 1) → ((fX9_isBarred N K M a0 x1) = 0) → Q (some (.int (0))) (mX9_isBarred N K M a0 x1)) (h7 : (¬ (fX9_isKey x1) = 0) → (¬ x2 = 0) → (x2 = 1) → (¬ (fX9_isBarred N K M a0 x1) = 0) → Q (some (.int (1))) (mX9_isBarred N K M a0 x1)) (b8 : (¬ (fX9_isKey x1) = 0) → (¬ x2 = 0) → (¬ x2 = 1) → (x2 = 2) → EX9_vertexOf M x1 (x2 - 2) (g_mi M (a0 + 2) 32) (g_mi M (a0 + 2) 31)) (h9 : (¬ (fX9_isKey x1) = 0) → (¬ x2 = 0) → (¬ x2 = 1) → (x2 = 2) → Q (some (.int ((fX9_vertexOf x1 (x2 - 2) (g_mi M (a0 + 2) 32) (g_mi M (a0 + 2) 31))))) M) (b10 : (¬ (fX9_isKey x1) = 0) → (¬ x2 = 0) → (¬ x2 = 1) → (¬ x2 = 2) → (x2 = 3) → EX9_vertexOf M x1 (x2 - 2) (g_mi M (a0 + 2) 32) (g_mi M (a0 + 2) 31)) (h11 : (¬ (fX9_isKey x1) = 0) → (¬ x2 = 0) → (¬ x2 = 1) → (¬ x2 = 2) → (x2 = 3) → Q (some (.int ((fX9_vertexOf x1 (x2 - 2) (g_mi M (a0 + 2) 32) (g_mi M (a0 + 2) 31))))) M) (b12 : (¬ (fX9_isKey x1) = 0) → (¬ x2 = 0) → (¬ x2 = 1) → (¬ x2 = 2) → (¬ x2 = 3) → (x2 = 4) → EX9_vertexOf M x1 (x2 - 2) (g_mi M (a0 + 2) 32) (g_mi M (a0 + 2) 31)) (h13 : (¬ (fX9_isKey x1) = 0) → (¬ x2 = 0) → (¬ x2 = 1) → (¬ x2 = 2) → (¬ x2 = 3) → (x2 = 4) → Q (some (.int ((fX9_vertexOf x1 (x2 - 2) (g_mi M (a0 + 2) 32) (g_mi M (a0 + 2) 31))))) M) (h14 : (¬ (fX9_isKey x1) = 0) → (¬ x2 = 0) → (¬ x2 = 1) → (¬ x2 = 2) → (¬ x2 = 3) → (¬ x2 = 4) → Q (some (.int ((-1)))) M) (h15 : ((fX9_isKey x1) = 0) → Q (some (.int ((-1)))) M) : Cn X (d + K + 9) mc ms kX9_key [.ref a0, .int (x1), .int (x2)] M Q := by
  refine g_meth rfl rfl (Nat.le_of_ble_eq_true rfl) rfl ?_
  refine g_iload_n 1 1 dX9_key_0 rfl rfl ?_
  refine g_callS (mc1 := 0) (ms1 := 0) (rest := []) (av := [.int (x1)]) kX9_isKey 4 dX9_key_1 rfl rfl mbX9_127 smX9_isKey (Nat.le_of_ble_eq_true rfl) (Nat.zero_le _) (Nat.zero_le _) (tX9_isKey (b1) ?_)
  show Go X (d + K + 9) mc ms kX9_key Q 4 [(0, .ref a0), (1, .int (x1)), (2, .int (x2))] [.int ((fX9_isKey x1))] M 0 0
  refine g_if_ne 9 7 dX9_key_4 rfl rfl (fun c1 => ?_) (fun c1 => ?_)
  · skip
    refine g_iload_n 2 10 dX9_key_9 rfl rfl ?_
    by_cases c2 : x2 = 0
    · refine h_tabIn (0) 44 dX9_key_10 c2 (by decide) (by decide) rfl rfl ?_
      refine g_aload_n 0 45 dX9_key_44 rfl rfl ?_
      refine g_iload_n 1 46 dX9_key_45 rfl rfl ?_
      refine g_callV (mc1 := 0) (ms1 := 0) (b := a0) (rest := []) (av := [.int (x1)]) kX9_isThere 49 dX9_key_46 rfl rfl mbX9_131 imX9_isThere seX9_isThere gcl9.1 s0.1 (Nat.le_of_ble_eq_true rfl) (Nat.zero_le _) (Nat.zero_le _) (tX9_isThere (N := N) s0 (b2 c1 c2) ?_)
      show Go X (d + K + 9) mc ms kX9_key Q 49 [(0, .ref a0), (1, .int (x1)), (2, .int (x2))] [.int ((fX9_isThere N M a0 x1))] M 0 0
      refine g_if_eq 56 52 dX9_key_49 rfl rfl (fun c3 => ?_) (fun c3 => ?_)
      · skip
        refine g_iconst (0) 57 dX9_key_56 rfl rfl ?_
        exact g_iret dX9_key_57 rfl (Nat.zero_le _) (Nat.zero_le _) (h3 c1 c2 c3)
      · skip
        refine g_iconst (1) 53 dX9_key_52 rfl rfl ?_
        refine g_goto 57 dX9_key_53 rfl ?_
        exact g_iret dX9_key_57 rfl (Nat.zero_le _) (Nat.zero_le _) (h4 c1 c2 c3)
    by_cases c4 : x2 = 1
    · refine h_tabIn (1) 58 dX9_key_10 c4 (by decide) (by decide) rfl rfl ?_
      refine g_aload_n 0 59 dX9_key_58 rfl rfl ?_
      refine g_iload_n 1 60 dX9_key_59 rfl rfl ?_
      refine g_callV (mc1 := 0) (ms1 := 0) (b := a0) (rest := []) (av := [.int (x1)]) kX9_isBarred 63 dX9_key_60 rfl rfl mbX9_134 imX9_isBarred seX9_isBarred gcl9.1 s0.1 (Nat.le_of_ble_eq_true rfl) (Nat.zero_le _) (Nat.zero_le _) (tX9_isBarred (N := N) (K := K) s0 (b5 c1 c2 c4) ?_)
      show Go X (d + K + 9) mc ms kX9_key Q 63 [(0, .ref a0), (1, .int (x1)), (2, .int (x2))] [.int ((fX9_isBarred N K M a0 x1))] (mX9_isBarred N K M a0 x1) 0 0
      refine g_if_eq 70 66 dX9_key_63 rfl rfl (fun c5 => ?_) (fun c5 => ?_)
      · skip
        refine g_iconst (0) 71 dX9_key_70 rfl rfl ?_
        exact g_iret dX9_key_71 rfl (Nat.zero_le _) (Nat.zero_le _) (h6 c1 c2 c4 c5)
      · skip
        refine g_iconst (1) 67 dX9_key_66 rfl rfl ?_
        refine g_goto 71 dX9_key_67 rfl ?_
        exact g_iret dX9_key_71 rfl (Nat.zero_le _) (Nat.zero_le _) (h7 c1 c2 c4 c5)
    by_cases c6 : x2 = 2
    · refine h_tabIn (2) 72 dX9_key_10 c6 (by decide) (by decide) rfl rfl ?_
      refine g_iload_n 1 73 dX9_key_72 rfl rfl ?_
      refine g_iload_n 2 74 dX9_key_73 rfl rfl ?_
      refine g_iconst (2) 75 dX9_key_74 rfl rfl ?_
      refine g_isub 76 dX9_key_75 rfl ?_
      refine g_aload_n 0 77 dX9_key_76 rfl rfl ?_
      refine g_getR 80 (a0 + 2) dX9_key_77 rfl flX9_28 s0.1 s0.2.2.2.1 ?_
      refine g_bipush (32) 82 dX9_key_80 rfl rfl ?_
      refine h_iaload 83 32 dX9_key_82 rfl rfl s0.2.2.2.2.1 (vp_lit rfl) ?_
      refine g_aload_n 0 84 dX9_key_83 rfl rfl ?_
      refine g_getR 87 (a0 + 2) dX9_key_84 rfl flX9_28 s0.1 s0.2.2.2.1 ?_
      refine g_bipush (31) 89 dX9_key_87 rfl rfl ?_
      refine h_iaload 90 31 dX9_key_89 rfl rfl s0.2.2.2.2.1 (vp_lit rfl) ?_
      refine g_callS (mc1 := 0) (ms1 := 0) (rest := []) (av := [.int (x1), .int ((x2 - 2)), .int ((g_mi M (a0 + 2) 32)), .int ((g_mi M (a0 + 2) 31))]) kX9_vertexOf 93 dX9_key_90 rfl rfl mbX9_115 smX9_vertexOf (Nat.le_of_ble_eq_true rfl) (Nat.zero_le _) (Nat.zero_le _) (tX9_vertexOf (b8 c1 c2 c4 c6) ?_)
      show Go X (d + K + 9) mc ms kX9_key Q 93 [(0, .ref a0), (1, .int (x1)), (2, .int (x2))] [.int ((fX9_vertexOf x1 (x2 - 2) (g_mi M (a0 + 2) 32) (g_mi M (a0 + 2) 31)))] M 0 0
      exact g_iret dX9_key_93 rfl (Nat.zero_le _) (Nat.zero_le _) (h9 c1 c2 c4 c6)
    by_cases c7 : x2 = 3
    · refine h_tabIn (3) 72 dX9_key_10 c7 (by decide) (by decide) rfl rfl ?_
      refine g_iload_n 1 73 dX9_key_72 rfl rfl ?_
      refine g_iload_n 2 74 dX9_key_73 rfl rfl ?_
      refine g_iconst (2) 75 dX9_key_74 rfl rfl ?_
      refine g_isub 76 dX9_key_75 rfl ?_
      refine g_aload_n 0 77 dX9_key_76 rfl rfl ?_
      refine g_getR 80 (a0 + 2) dX9_key_77 rfl flX9_28 s0.1 s0.2.2.2.1 ?_
      refine g_bipush (32) 82 dX9_key_80 rfl rfl ?_
      refine h_iaload 83 32 dX9_key_82 rfl rfl s0.2.2.2.2.1 (vp_lit rfl) ?_
      refine g_aload_n 0 84 dX9_key_83 rfl rfl ?_
      refine g_getR 87 (a0 + 2) dX9_key_84 rfl flX9_28 s0.1 s0.2.2.2.1 ?_
      refine g_bipush (31) 89 dX9_key_87 rfl rfl ?_
      refine h_iaload 90 31 dX9_key_89 rfl rfl s0.2.2.2.2.1 (vp_lit rfl) ?_
      refine g_callS (mc1 := 0) (ms1 := 0) (rest := []) (av := [.int (x1), .int ((x2 - 2)), .int ((g_mi M (a0 + 2) 32)), .int ((g_mi M (a0 + 2) 31))]) kX9_vertexOf 93 dX9_key_90 rfl rfl mbX9_115 smX9_vertexOf (Nat.le_of_ble_eq_true rfl) (Nat.zero_le _) (Nat.zero_le _) (tX9_vertexOf (b10 c1 c2 c4 c6 c7) ?_)
      show Go X (d + K + 9) mc ms kX9_key Q 93 [(0, .ref a0), (1, .int (x1)), (2, .int (x2))] [.int ((fX9_vertexOf x1 (x2 - 2) (g_mi M (a0 + 2) 32) (g_mi M (a0 + 2) 31)))] M 0 0
      exact g_iret dX9_key_93 rfl (Nat.zero_le _) (Nat.zero_le _) (h11 c1 c2 c4 c6 c7)
    by_cases c8 : x2 = 4
    · refine h_tabIn (4) 72 dX9_key_10 c8 (by decide) (by decide) rfl rfl ?_
      refine g_iload_n 1 73 dX9_key_72 rfl rfl ?_
      refine g_iload_n 2 74 dX9_key_73 rfl rfl ?_
      refine g_iconst (2) 75 dX9_key_74 rfl rfl ?_
      refine g_isub 76 dX9_key_75 rfl ?_
      refine g_aload_n 0 77 dX9_key_76 rfl rfl ?_
      refine g_getR 80 (a0 + 2) dX9_key_77 rfl flX9_28 s0.1 s0.2.2.2.1 ?_
      refine g_bipush (32) 82 dX9_key_80 rfl rfl ?_
      refine h_iaload 83 32 dX9_key_82 rfl rfl s0.2.2.2.2.1 (vp_lit rfl) ?_
      refine g_aload_n 0 84 dX9_key_83 rfl rfl ?_
      refine g_getR 87 (a0 + 2) dX9_key_84 rfl flX9_28 s0.1 s0.2.2.2.1 ?_
      refine g_bipush (31) 89 dX9_key_87 rfl rfl ?_
      refine h_iaload 90 31 dX9_key_89 rfl rfl s0.2.2.2.2.1 (vp_lit rfl) ?_
      refine g_callS (mc1 := 0) (ms1 := 0) (rest := []) (av := [.int (x1), .int ((x2 - 2)), .int ((g_mi M (a0 + 2) 32)), .int ((g_mi M (a0 + 2) 31))]) kX9_vertexOf 93 dX9_key_90 rfl rfl mbX9_115 smX9_vertexOf (Nat.le_of_ble_eq_true rfl) (Nat.zero_le _) (Nat.zero_le _) (tX9_vertexOf (b12 c1 c2 c4 c6 c7 c8) ?_)
      show Go X (d + K + 9) mc ms kX9_key Q 93 [(0, .ref a0), (1, .int (x1)), (2, .int (x2))] [.int ((fX9_vertexOf x1 (x2 - 2) (g_mi M (a0 + 2) 32) (g_mi M (a0 + 2) 31)))] M 0 0
      exact g_iret dX9_key_93 rfl (Nat.zero_le _) (Nat.zero_le _) (h13 c1 c2 c4 c6 c7 c8)
    have tc2 := i_neT c2
    have tc4 := i_neT c4
    have tc6 := i_neT c6
    have tc7 := i_neT c7
    have tc8 := i_neT c8
    rw [show ((0 : Int32)).toInt = 0 from rfl] at tc2
    rw [show ((1 : Int32)).toInt = 1 from rfl] at tc4
    rw [show ((2 : Int32)).toInt = 2 from rfl] at tc6
    rw [show ((3 : Int32)).toInt = 3 from rfl] at tc7
    rw [show ((4 : Int32)).toInt = 4 from rfl] at tc8
    refine g_tableOut 94 dX9_key_10 (by omega) rfl ?_
    refine g_iconst ((-1)) 95 dX9_key_94 rfl rfl ?_
    exact g_iret dX9_key_95 rfl (Nat.zero_le _) (Nat.zero_le _) (h14 c1 c2 c4 c6 c7 c8)
  · skip
    refine g_iconst ((-1)) 8 dX9_key_7 rfl rfl ?_
    exact g_iret dX9_key_8 rfl (Nat.zero_le _) (Nat.zero_le _) (h15 c1)

def fX9_key (N : Nat) (K : Nat) (M : gM) (a0 : Nat) (x1 : Int32) (x2 : Int32) : Int32 := (if (fX9_isKey x1) = 0 then (-1) else (if x2 = 0 then (if (fX9_isThere N M a0 x1) = 0 then 0 else 1) else (if x2 = 1 then (if (fX9_isBarred N K M a0 x1) = 0 then 0 else 1) else (if x2 = 2 then (fX9_vertexOf x1 (x2 - 2) (g_mi M (a0 + 2) 32) (g_mi M (a0 + 2) 31)) else (if x2 = 3 then (fX9_vertexOf x1 (x2 - 2) (g_mi M (a0 + 2) 32) (g_mi M (a0 + 2) 31)) else (if x2 = 4 then (fX9_vertexOf x1 (x2 - 2) (g_mi M (a0 + 2) 32) (g_mi M (a0 + 2) 31)) else (-1)))))))
def mX9_key (N : Nat) (K : Nat) (M : gM) (a0 : Nat) (x1 : Int32) (x2 : Int32) : gM := g_wm M (if (fX9_isKey x1) = 0 then (g_mi M) else (if x2 = 0 then (if (fX9_isThere N M a0 x1) = 0 then (g_mi M) else (g_mi M)) else (if x2 = 1 then (if (fX9_isBarred N K M a0 x1) = 0 then (g_mi (mX9_isBarred N K M a0 x1)) else (g_mi (mX9_isBarred N K M a0 x1))) else (if x2 = 2 then (g_mi M) else (if x2 = 3 then (g_mi M) else (if x2 = 4 then (g_mi M) else (g_mi M))))))) (g_ml M)
def EX9_key (N : Nat) (K : Nat) (M : gM) (a0 : Nat) (x1 : Int32) (x2 : Int32) : Prop := (EX9_isKey M x1) ∧ ((¬ (fX9_isKey x1) = 0) → (x2 = 0) → EX9_isThere N M a0 x1) ∧ ((¬ (fX9_isKey x1) = 0) → (¬ x2 = 0) → (x2 = 1) → EX9_isBarred N K M a0 x1) ∧ ((¬ (fX9_isKey x1) = 0) → (¬ x2 = 0) → (¬ x2 = 1) → (x2 = 2) → EX9_vertexOf M x1 (x2 - 2) (g_mi M (a0 + 2) 32) (g_mi M (a0 + 2) 31)) ∧ ((¬ (fX9_isKey x1) = 0) → (¬ x2 = 0) → (¬ x2 = 1) → (¬ x2 = 2) → (x2 = 3) → EX9_vertexOf M x1 (x2 - 2) (g_mi M (a0 + 2) 32) (g_mi M (a0 + 2) 31)) ∧ ((¬ (fX9_isKey x1) = 0) → (¬ x2 = 0) → (¬ x2 = 1) → (¬ x2 = 2) → (¬ x2 = 3) → (x2 = 4) → EX9_vertexOf M x1 (x2 - 2) (g_mi M (a0 + 2) 32) (g_mi M (a0 + 2) 31))
theorem jX9_key {N : Nat} {K : Nat} {M : gM} {a0 : Nat} {x1 : Int32} {x2 : Int32} : Sm M (mX9_key N K M a0 x1 x2) := Sm.wm
theorem tX9_key {N : Nat} {K : Nat} {X : gX} {d mc ms : Nat} {Q : Option Value → gM → Prop} {M : gM} {a0 : Nat} {x1 : Int32} {x2 : Int32} (s0 : Mo M a0) (hE : EX9_key N K M a0 x1 x2) (hQ : Q (some (.int (fX9_key N K M a0 x1 x2))) (mX9_key N K M a0 x1 x2)) : Cn X (d + K + 9) mc ms kX9_key [.ref a0, .int (x1), .int (x2)] M Q := by
  unfold fX9_key mX9_key at hQ
  obtain ⟨b1, b2, b5, b8, b10, b12⟩ := hE
  exact sX9_key_0 s0 b1 b2 (fun c1 c2 c3 => by simp only [if_neg c1, if_pos c2, if_pos c3] at hQ; exact Sm.q Sm.rf hQ) (fun c1 c2 c3 => by simp only [if_neg c1, if_pos c2, if_neg c3] at hQ; exact Sm.q Sm.rf hQ) b5 (fun c1 c2 c4 c5 => by simp only [if_neg c1, if_neg c2, if_pos c4, if_pos c5] at hQ; exact Sm.q (Sm.tr Sm.rf jX9_isBarred) hQ) (fun c1 c2 c4 c5 => by simp only [if_neg c1, if_neg c2, if_pos c4, if_neg c5] at hQ; exact Sm.q (Sm.tr Sm.rf jX9_isBarred) hQ) b8 (fun c1 c2 c4 c6 => by simp only [if_neg c1, if_neg c2, if_neg c4, if_pos c6] at hQ; exact Sm.q Sm.rf hQ) b10 (fun c1 c2 c4 c6 c7 => by simp only [if_neg c1, if_neg c2, if_neg c4, if_neg c6, if_pos c7] at hQ; exact Sm.q Sm.rf hQ) b12 (fun c1 c2 c4 c6 c7 c8 => by simp only [if_neg c1, if_neg c2, if_neg c4, if_neg c6, if_neg c7, if_pos c8] at hQ; exact Sm.q Sm.rf hQ) (fun c1 c2 c4 c6 c7 c8 => by simp only [if_neg c1, if_neg c2, if_neg c4, if_neg c6, if_neg c7, if_neg c8] at hQ; exact Sm.q Sm.rf hQ) (fun c1 => by simp only [if_pos c1] at hQ; exact Sm.q Sm.rf hQ)
/-! X9_vertex  -/
set_option maxRecDepth 4000 in
theorem sX9_vertex_0 {N : Nat} {K : Nat} {X : gX} {d mc ms : Nat} {Q : Option Value → gM → Prop} {M : gM} {a0 : Nat} {x1 : Int32} {x2 : Int32} (s0 : Mo M a0) (b1 : EX9_isVertex M a0 x1) (h2 : ((fX9_isVertex M a0 x1) = 0) → Q (some (.int ((-1)))) M) (b3 : (¬ (fX9_isVertex M a0 x1) = 0) → (¬ (fX9_lies x2 0 1) = 0) → (¬ x2 = 0) → EX9_ranksOf N K M a0 x1 (g_mi M (a0 + 2) 32)) (h4 : (¬ (fX9_isVertex M a0 x1) = 0) → (¬ (fX9_lies x2 0 1) = 0) → (¬ x2 = 0) → Q (some (.int ((fX9_ranksOf N K M a0 x1 (g_mi M (a0 + 2) 32))))) (mX9_ranksOf N K M a0 x1 (g_mi M (a0 + 2) 32))) (b5 : (¬ (fX9_isVertex M a0 x1) = 0) → (¬ (fX9_lies x2 0 1) = 0) → (x2 = 0) → EX9_degreeOf N M a0 x1 (g_mi M (a0 + 2) 32)) (h6 : (¬ (fX9_isVertex M a0 x1) = 0) → (¬ (fX9_lies x2 0 1) = 0) → (x2 = 0) → Q (some (.int ((fX9_degreeOf N M a0 x1 (g_mi M (a0 + 2) 32))))) M) (h7 : (¬ (fX9_isVertex M a0 x1) = 0) → ((fX9_lies x2 0 1) = 0) → Q (some (.int ((-1)))) M) : Cn X (d + K + 9) mc ms kX9_vertex [.ref a0, .int (x1), .int (x2)] M Q := by
  refine g_meth rfl rfl (Nat.le_of_ble_eq_true rfl) rfl ?_
  refine g_aload_n 0 1 dX9_vertex_0 rfl rfl ?_
  refine g_iload_n 1 2 dX9_vertex_1 rfl rfl ?_
  refine g_callV (mc1 := 0) (ms1 := 0) (b := a0) (rest := []) (av := [.int (x1)]) kX9_isVertex 5 dX9_vertex_2 rfl rfl mbX9_137 imX9_isVertex seX9_isVertex gcl9.1 s0.1 (Nat.le_of_ble_eq_true rfl) (Nat.zero_le _) (Nat.zero_le _) (tX9_isVertex s0 (b1) ?_)
  show Go X (d + K + 9) mc ms kX9_vertex Q 5 [(0, .ref a0), (1, .int (x1)), (2, .int (x2))] [.int ((fX9_isVertex M a0 x1))] M 0 0
  refine g_if_eq 17 8 dX9_vertex_5 rfl rfl (fun c1 => ?_) (fun c1 => ?_)
  · skip
    refine g_iconst ((-1)) 18 dX9_vertex_17 rfl rfl ?_
    exact g_iret dX9_vertex_18 rfl (Nat.zero_le _) (Nat.zero_le _) (h2 c1)
  · skip
    refine g_iload_n 2 9 dX9_vertex_8 rfl rfl ?_
    refine g_iconst (0) 10 dX9_vertex_9 rfl rfl ?_
    refine g_iconst (1) 11 dX9_vertex_10 rfl rfl ?_
    refine g_callS (mc1 := 0) (ms1 := 0) (rest := []) (av := [.int (x2), .int (0), .int (1)]) kX9_lies 14 dX9_vertex_11 rfl rfl mbX9_18 smX9_lies (Nat.le_of_ble_eq_true rfl) (Nat.zero_le _) (Nat.zero_le _) (tX9_lies  ?_)
    show Go X (d + K + 9) mc ms kX9_vertex Q 14 [(0, .ref a0), (1, .int (x1)), (2, .int (x2))] [.int ((fX9_lies x2 0 1))] M 0 0
    refine g_if_ne 19 17 dX9_vertex_14 rfl rfl (fun c2 => ?_) (fun c2 => ?_)
    · skip
      refine g_iload_n 2 20 dX9_vertex_19 rfl rfl ?_
      refine g_if_ne 38 23 dX9_vertex_20 rfl rfl (fun c3 => ?_) (fun c3 => ?_)
      · skip
        refine g_aload_n 0 39 dX9_vertex_38 rfl rfl ?_
        refine g_iload_n 1 40 dX9_vertex_39 rfl rfl ?_
        refine g_aload_n 0 41 dX9_vertex_40 rfl rfl ?_
        refine g_getR 44 (a0 + 2) dX9_vertex_41 rfl flX9_28 s0.1 s0.2.2.2.1 ?_
        refine g_bipush (32) 46 dX9_vertex_44 rfl rfl ?_
        refine h_iaload 47 32 dX9_vertex_46 rfl rfl s0.2.2.2.2.1 (vp_lit rfl) ?_
        refine g_callV (mc1 := 0) (ms1 := 0) (b := a0) (rest := []) (av := [.int (x1), .int ((g_mi M (a0 + 2) 32))]) kX9_ranksOf 50 dX9_vertex_47 rfl rfl mbX9_144 imX9_ranksOf seX9_ranksOf gcl9.1 s0.1 (Nat.le_of_ble_eq_true rfl) (Nat.zero_le _) (Nat.zero_le _) (tX9_ranksOf (N := N) (K := K) s0 (b3 c1 c2 c3) ?_)
        show Go X (d + K + 9) mc ms kX9_vertex Q 50 [(0, .ref a0), (1, .int (x1)), (2, .int (x2))] [.int ((fX9_ranksOf N K M a0 x1 (g_mi M (a0 + 2) 32)))] (mX9_ranksOf N K M a0 x1 (g_mi M (a0 + 2) 32)) 0 0
        exact g_iret dX9_vertex_50 rfl (Nat.zero_le _) (Nat.zero_le _) (h4 c1 c2 c3)
      · skip
        refine g_aload_n 0 24 dX9_vertex_23 rfl rfl ?_
        refine g_iload_n 1 25 dX9_vertex_24 rfl rfl ?_
        refine g_aload_n 0 26 dX9_vertex_25 rfl rfl ?_
        refine g_getR 29 (a0 + 2) dX9_vertex_26 rfl flX9_28 s0.1 s0.2.2.2.1 ?_
        refine g_bipush (32) 31 dX9_vertex_29 rfl rfl ?_
        refine h_iaload 32 32 dX9_vertex_31 rfl rfl s0.2.2.2.2.1 (vp_lit rfl) ?_
        refine g_callV (mc1 := 0) (ms1 := 0) (b := a0) (rest := []) (av := [.int (x1), .int ((g_mi M (a0 + 2) 32))]) kX9_degreeOf 35 dX9_vertex_32 rfl rfl mbX9_140 imX9_degreeOf seX9_degreeOf gcl9.1 s0.1 (Nat.le_of_ble_eq_true rfl) (Nat.zero_le _) (Nat.zero_le _) (tX9_degreeOf (N := N) s0 (b5 c1 c2 c3) ?_)
        show Go X (d + K + 9) mc ms kX9_vertex Q 35 [(0, .ref a0), (1, .int (x1)), (2, .int (x2))] [.int ((fX9_degreeOf N M a0 x1 (g_mi M (a0 + 2) 32)))] M 0 0
        refine g_goto 50 dX9_vertex_35 rfl ?_
        exact g_iret dX9_vertex_50 rfl (Nat.zero_le _) (Nat.zero_le _) (h6 c1 c2 c3)
    · skip
      refine g_iconst ((-1)) 18 dX9_vertex_17 rfl rfl ?_
      exact g_iret dX9_vertex_18 rfl (Nat.zero_le _) (Nat.zero_le _) (h7 c1 c2)

def fX9_vertex (N : Nat) (K : Nat) (M : gM) (a0 : Nat) (x1 : Int32) (x2 : Int32) : Int32 := (if (fX9_isVertex M a0 x1) = 0 then (-1) else (if (fX9_lies x2 0 1) = 0 then (-1) else (if x2 = 0 then (fX9_degreeOf N M a0 x1 (g_mi M (a0 + 2) 32)) else (fX9_ranksOf N K M a0 x1 (g_mi M (a0 + 2) 32)))))
def mX9_vertex (N : Nat) (K : Nat) (M : gM) (a0 : Nat) (x1 : Int32) (x2 : Int32) : gM := g_wm M (if (fX9_isVertex M a0 x1) = 0 then (g_mi M) else (if (fX9_lies x2 0 1) = 0 then (g_mi M) else (if x2 = 0 then (g_mi M) else (g_mi (mX9_ranksOf N K M a0 x1 (g_mi M (a0 + 2) 32)))))) (g_ml M)
def EX9_vertex (N : Nat) (K : Nat) (M : gM) (a0 : Nat) (x1 : Int32) (x2 : Int32) : Prop := (EX9_isVertex M a0 x1) ∧ ((¬ (fX9_isVertex M a0 x1) = 0) → (¬ (fX9_lies x2 0 1) = 0) → (¬ x2 = 0) → EX9_ranksOf N K M a0 x1 (g_mi M (a0 + 2) 32)) ∧ ((¬ (fX9_isVertex M a0 x1) = 0) → (¬ (fX9_lies x2 0 1) = 0) → (x2 = 0) → EX9_degreeOf N M a0 x1 (g_mi M (a0 + 2) 32))
theorem jX9_vertex {N : Nat} {K : Nat} {M : gM} {a0 : Nat} {x1 : Int32} {x2 : Int32} : Sm M (mX9_vertex N K M a0 x1 x2) := Sm.wm
theorem tX9_vertex {N : Nat} {K : Nat} {X : gX} {d mc ms : Nat} {Q : Option Value → gM → Prop} {M : gM} {a0 : Nat} {x1 : Int32} {x2 : Int32} (s0 : Mo M a0) (hE : EX9_vertex N K M a0 x1 x2) (hQ : Q (some (.int (fX9_vertex N K M a0 x1 x2))) (mX9_vertex N K M a0 x1 x2)) : Cn X (d + K + 9) mc ms kX9_vertex [.ref a0, .int (x1), .int (x2)] M Q := by
  unfold fX9_vertex mX9_vertex at hQ
  obtain ⟨b1, b3, b5⟩ := hE
  exact sX9_vertex_0 s0 b1 (fun c1 => by simp only [if_pos c1] at hQ; exact Sm.q Sm.rf hQ) b3 (fun c1 c2 c3 => by simp only [if_neg c1, if_neg c2, if_neg c3] at hQ; exact Sm.q (Sm.tr Sm.rf jX9_ranksOf) hQ) b5 (fun c1 c2 c3 => by simp only [if_neg c1, if_neg c2, if_pos c3] at hQ; exact Sm.q Sm.rf hQ) (fun c1 c2 => by simp only [if_neg c1, if_pos c2] at hQ; exact Sm.q Sm.rf hQ)
/-! X9_row  -/
set_option maxRecDepth 4000 in
theorem sX9_row_0 {K : Nat} {X : gX} {d mc ms : Nat} {Q : Option Value → gM → Prop} {M : gM} {a0 : Nat} (s0 : Mo M a0) (h1 : (¬ (g_mi M a0 13) = 0) → Go X (d + K + 10) mc ms kX9_row Q 32 [(0, .ref a0), (1, .int ((g_mi M a0 13))), (2, .int (0)), (3, .int (0))] [] (g_wi (g_wi M a0 13 0) a0 6 (i_rm (g_mi M a0 13) 2)) 0 0) (b2 : ((g_mi M a0 13) = 0) → EX9_refuses (g_wi M a0 13 0) a0 (-6)) (h3 : ((g_mi M a0 13) = 0) → Q (some (.int ((fX9_refuses a0 (-6))))) (mX9_refuses (g_wi M a0 13 0) a0 (-6))) : Cn X (d + K + 10) mc ms kX9_row [.ref a0] M Q := by
  refine g_meth rfl rfl (Nat.le_of_ble_eq_true rfl) rfl ?_
  refine g_aload_n 0 1 dX9_row_0 rfl rfl ?_
  refine g_getI 4 dX9_row_1 rfl flX9_157 s0.1 ?_
  refine g_istore_n 5 [(1, .int ((g_mi M a0 13))), (0, .ref a0)] dX9_row_4 rfl (Nat.le_of_ble_eq_true rfl) rfl ?_
  refine g_aload_n 1 6 dX9_row_5 rfl rfl ?_
  refine g_iconst (0) 7 dX9_row_6 rfl rfl ?_
  refine g_putI 10 dX9_row_7 rfl flX9_157 s0.1 ?_
  refine g_iload_n 0 11 dX9_row_10 rfl rfl ?_
  refine g_if_ne 21 14 dX9_row_11 rfl rfl (fun c1 => ?_) (fun c1 => ?_)
  · skip
    refine g_iconst (0) 22 dX9_row_21 rfl rfl ?_
    refine g_istore_n 23 [(2, .int (0)), (1, .int ((g_mi M a0 13))), (0, .ref a0)] dX9_row_22 rfl (Nat.le_of_ble_eq_true rfl) rfl ?_
    refine g_aload_n 2 24 dX9_row_23 rfl rfl ?_
    refine g_iload_n 1 25 dX9_row_24 rfl rfl ?_
    refine g_iconst (2) 26 dX9_row_25 rfl rfl ?_
    refine h_irem 27 dX9_row_26 rfl (by decide) ?_
    refine g_putI 30 dX9_row_27 rfl flX9_160 (Sm.k (Sm.wi Sm.rf) s0.1) ?_
    refine g_iconst (0) 31 dX9_row_30 rfl rfl ?_
    refine g_istore_n 32 [(3, .int (0)), (2, .int (0)), (1, .int ((g_mi M a0 13))), (0, .ref a0)] dX9_row_31 rfl (Nat.le_of_ble_eq_true rfl) rfl ?_
    exact g_sub [3, 2, 1, 0] _ rfl (h1 c1)
  · skip
    refine g_aload_n 1 15 dX9_row_14 rfl rfl ?_
    refine g_bipush ((-6)) 17 dX9_row_15 rfl rfl ?_
    refine g_callV (mc1 := 0) (ms1 := 0) (b := a0) (rest := []) (av := [.int ((-6))]) kX9_refuses 20 dX9_row_17 rfl rfl mbX9_103 imX9_refuses seX9_refuses gcl9.1 (Sm.k (Sm.wi Sm.rf) s0.1) (Nat.le_of_ble_eq_true rfl) (Nat.zero_le _) (Nat.zero_le _) (tX9_refuses (Mo.sm (Sm.wi Sm.rf) s0) (b2 c1) ?_)
    show Go X (d + K + 10) mc ms kX9_row Q 20 [(1, .int ((g_mi M a0 13))), (0, .ref a0)] [.int ((fX9_refuses a0 (-6)))] (mX9_refuses (g_wi M a0 13 0) a0 (-6)) 0 0
    exact g_iret dX9_row_20 rfl (Nat.zero_le _) (Nat.zero_le _) (h3 c1)

set_option maxRecDepth 4000 in
theorem sX9_row_32 {N : Nat} {K : Nat} {X : gX} {d mc ms : Nat} {Q : Option Value → gM → Prop} {M : gM} {c z : Nat} {a0 : Nat} {x1 : Int32} {x2 : Int32} {x3 : Int32} (s0 : Mo M a0) (w1 : c ≤ mc) (w2 : z ≤ ms) (h3 : (x1 < (x3 + 2)) → Q (some (.int ((fX9_settled a0 x2)))) (mX9_settled M a0 x2)) (b4 : (¬ x1 < (x3 + 2)) → vp_in (x3) 400) (b5 : (¬ x1 < (x3 + 2)) → vp_in ((x3 + 1)) 400) (b6 : (¬ x1 < (x3 + 2)) → EX9_adds N K M a0 ((((g_mi M (a0 + 7) (x3).toNatClampNeg) &&& 255) * 4) + ((g_mi M (a0 + 7) ((x3 + 1)).toNatClampNeg) &&& 255))) (h7 : (¬ x1 < (x3 + 2)) → ((fX9_adds N K M a0 ((((g_mi M (a0 + 7) (x3).toNatClampNeg) &&& 255) * 4) + ((g_mi M (a0 + 7) ((x3 + 1)).toNatClampNeg) &&& 255))) < 0) → Go X (d + K + 10) mc ms kX9_row Q 32 [(0, .ref a0), (1, .int (x1)), (2, .int ((x2 + 0))), (3, .int ((x3 + 2)))] [] (g_wi (mX9_adds N K M a0 ((((g_mi M (a0 + 7) (x3).toNatClampNeg) &&& 255) * 4) + ((g_mi M (a0 + 7) ((x3 + 1)).toNatClampNeg) &&& 255))) a0 6 ((g_mi (mX9_adds N K M a0 ((((g_mi M (a0 + 7) (x3).toNatClampNeg) &&& 255) * 4) + ((g_mi M (a0 + 7) ((x3 + 1)).toNatClampNeg) &&& 255))) a0 6) + 1)) c z) (h8 : (¬ x1 < (x3 + 2)) → (¬ (fX9_adds N K M a0 ((((g_mi M (a0 + 7) (x3).toNatClampNeg) &&& 255) * 4) + ((g_mi M (a0 + 7) ((x3 + 1)).toNatClampNeg) &&& 255))) < 0) → Go X (d + K + 10) mc ms kX9_row Q 32 [(0, .ref a0), (1, .int (x1)), (2, .int ((x2 + 1))), (3, .int ((x3 + 2)))] [] (g_wi (mX9_adds N K M a0 ((((g_mi M (a0 + 7) (x3).toNatClampNeg) &&& 255) * 4) + ((g_mi M (a0 + 7) ((x3 + 1)).toNatClampNeg) &&& 255))) a0 6 ((g_mi (mX9_adds N K M a0 ((((g_mi M (a0 + 7) (x3).toNatClampNeg) &&& 255) * 4) + ((g_mi M (a0 + 7) ((x3 + 1)).toNatClampNeg) &&& 255))) a0 6) + 0)) c z) : Go X (d + K + 10) mc ms kX9_row Q 32 [(0, .ref a0), (1, .int (x1)), (2, .int (x2)), (3, .int (x3))] [] M c z := by
  refine g_iload_n 3 33 dX9_row_32 rfl rfl ?_
  refine g_iconst (2) 34 dX9_row_33 rfl rfl ?_
  refine g_iadd 35 dX9_row_34 rfl ?_
  refine g_iload_n 1 36 dX9_row_35 rfl rfl ?_
  refine g_icmp_gt 116 39 dX9_row_36 rfl rfl (fun c1 => ?_) (fun c1 => ?_)
  · skip
    refine g_aload_n 0 117 dX9_row_116 rfl rfl ?_
    refine g_iload_n 2 118 dX9_row_117 rfl rfl ?_
    refine g_callV (mc1 := 0) (ms1 := 0) (b := a0) (rest := []) (av := [.int (x2)]) kX9_settled 121 dX9_row_118 rfl rfl mbX9_106 imX9_settled seX9_settled gcl9.1 s0.1 (Nat.le_of_ble_eq_true rfl) (w1) (w2) (tX9_settled s0 ?_)
    show Go X (d + K + 10) mc ms kX9_row Q 121 [(0, .ref a0), (1, .int (x1)), (2, .int (x2)), (3, .int (x3))] [.int ((fX9_settled a0 x2))] (mX9_settled M a0 x2) c z
    exact g_iret dX9_row_121 rfl (w1) (w2) (h3 c1)
  · skip
    refine g_aload_n 0 40 dX9_row_39 rfl rfl ?_
    refine g_aload_n 0 41 dX9_row_40 rfl rfl ?_
    refine g_getR 44 (a0 + 7) dX9_row_41 rfl flX9_45 s0.1 s0.2.2.2.2.2.2.2.2.2.2.2.2.2.1 ?_
    refine g_iload_n 3 45 dX9_row_44 rfl rfl ?_
    refine h_baload 46 (x3).toNatClampNeg dX9_row_45 rfl rfl s0.2.2.2.2.2.2.2.2.2.2.2.2.2.2.1 (b4 c1) ?_
    refine g_sipush (255) 49 dX9_row_46 rfl rfl ?_
    refine g_iand 50 dX9_row_49 rfl ?_
    refine g_iconst (4) 51 dX9_row_50 rfl rfl ?_
    refine g_imul 52 dX9_row_51 rfl ?_
    refine g_aload_n 0 53 dX9_row_52 rfl rfl ?_
    refine g_getR 56 (a0 + 7) dX9_row_53 rfl flX9_45 s0.1 s0.2.2.2.2.2.2.2.2.2.2.2.2.2.1 ?_
    refine g_iload_n 3 57 dX9_row_56 rfl rfl ?_
    refine g_iconst (1) 58 dX9_row_57 rfl rfl ?_
    refine g_iadd 59 dX9_row_58 rfl ?_
    refine h_baload 60 ((x3 + 1)).toNatClampNeg dX9_row_59 rfl rfl s0.2.2.2.2.2.2.2.2.2.2.2.2.2.2.1 (b5 c1) ?_
    refine g_sipush (255) 63 dX9_row_60 rfl rfl ?_
    refine g_iand 64 dX9_row_63 rfl ?_
    refine g_iadd 65 dX9_row_64 rfl ?_
    refine g_callV (mc1 := 0) (ms1 := 0) (b := a0) (rest := []) (av := [.int (((((g_mi M (a0 + 7) (x3).toNatClampNeg) &&& 255) * 4) + ((g_mi M (a0 + 7) ((x3 + 1)).toNatClampNeg) &&& 255)))]) kX9_adds 68 dX9_row_65 rfl rfl mbX9_163 imX9_adds seX9_adds gcl9.1 s0.1 (Nat.le_of_ble_eq_true rfl) (w1) (w2) (tX9_adds (N := N) (K := K) s0 (b6 c1) ?_)
    show Go X (d + K + 10) mc ms kX9_row Q 68 [(0, .ref a0), (1, .int (x1)), (2, .int (x2)), (3, .int (x3))] [.int ((fX9_adds N K M a0 ((((g_mi M (a0 + 7) (x3).toNatClampNeg) &&& 255) * 4) + ((g_mi M (a0 + 7) ((x3 + 1)).toNatClampNeg) &&& 255))))] (mX9_adds N K M a0 ((((g_mi M (a0 + 7) (x3).toNatClampNeg) &&& 255) * 4) + ((g_mi M (a0 + 7) ((x3 + 1)).toNatClampNeg) &&& 255))) c z
    refine g_if_lt 75 71 dX9_row_68 rfl rfl (fun c2 => ?_) (fun c2 => ?_)
    · skip
      refine g_iconst (0) 76 dX9_row_75 rfl rfl ?_
      refine g_istore 78 [(4, .int (0)), (0, .ref a0), (1, .int (x1)), (2, .int (x2)), (3, .int (x3))] dX9_row_76 rfl (Nat.le_of_ble_eq_true rfl) rfl ?_
      refine g_iload_n 3 79 dX9_row_78 rfl rfl ?_
      refine g_iload 0 81 dX9_row_79 rfl rfl ?_
      refine g_if_eq 88 84 dX9_row_81 rfl rfl (fun _ => ?_) (fun q => absurd q (by decide))
      refine g_iconst (0) 89 dX9_row_88 rfl rfl ?_
      refine g_iadd 90 dX9_row_89 rfl ?_
      refine g_istore_n 91 [(2, .int ((x2 + 0))), (4, .int (0)), (0, .ref a0), (1, .int (x1)), (3, .int (x3))] dX9_row_90 rfl (Nat.le_of_ble_eq_true rfl) rfl ?_
      refine g_aload_n 2 92 dX9_row_91 rfl rfl ?_
      refine g_dup 93 dX9_row_92 rfl rfl ?_
      refine g_getI 96 dX9_row_93 rfl flX9_160 (Sm.k (Sm.tr Sm.rf jX9_adds) s0.1) ?_
      refine g_iload 1 98 dX9_row_96 rfl rfl ?_
      refine g_if_eq 105 101 dX9_row_98 rfl rfl (fun _ => ?_) (fun q => absurd q (by decide))
      refine g_iconst (1) 106 dX9_row_105 rfl rfl ?_
      refine g_iadd 107 dX9_row_106 rfl ?_
      refine g_putI 110 dX9_row_107 rfl flX9_160 (Sm.k (Sm.tr Sm.rf jX9_adds) s0.1) ?_
      refine g_iinc _ 4 113 [(3, .int ((x3 + 2))), (2, .int ((x2 + 0))), (4, .int (0)), (0, .ref a0), (1, .int (x1))] dX9_row_110 rfl rfl rfl (Nat.le_of_ble_eq_true rfl) rfl ?_
      refine g_goto 32 dX9_row_113 rfl ?_
      exact g_sub [3, 4, 1, 0] _ rfl (h7 c1 c2)
    · skip
      refine g_iconst (1) 72 dX9_row_71 rfl rfl ?_
      refine g_goto 76 dX9_row_72 rfl ?_
      refine g_istore 78 [(4, .int (1)), (0, .ref a0), (1, .int (x1)), (2, .int (x2)), (3, .int (x3))] dX9_row_76 rfl (Nat.le_of_ble_eq_true rfl) rfl ?_
      refine g_iload_n 3 79 dX9_row_78 rfl rfl ?_
      refine g_iload 0 81 dX9_row_79 rfl rfl ?_
      refine g_if_eq 88 84 dX9_row_81 rfl rfl (fun q => absurd q (by decide)) (fun _ => ?_)
      refine g_iconst (1) 85 dX9_row_84 rfl rfl ?_
      refine g_goto 89 dX9_row_85 rfl ?_
      refine g_iadd 90 dX9_row_89 rfl ?_
      refine g_istore_n 91 [(2, .int ((x2 + 1))), (4, .int (1)), (0, .ref a0), (1, .int (x1)), (3, .int (x3))] dX9_row_90 rfl (Nat.le_of_ble_eq_true rfl) rfl ?_
      refine g_aload_n 2 92 dX9_row_91 rfl rfl ?_
      refine g_dup 93 dX9_row_92 rfl rfl ?_
      refine g_getI 96 dX9_row_93 rfl flX9_160 (Sm.k (Sm.tr Sm.rf jX9_adds) s0.1) ?_
      refine g_iload 1 98 dX9_row_96 rfl rfl ?_
      refine g_if_eq 105 101 dX9_row_98 rfl rfl (fun q => absurd q (by decide)) (fun _ => ?_)
      refine g_iconst (0) 102 dX9_row_101 rfl rfl ?_
      refine g_goto 106 dX9_row_102 rfl ?_
      refine g_iadd 107 dX9_row_106 rfl ?_
      refine g_putI 110 dX9_row_107 rfl flX9_160 (Sm.k (Sm.tr Sm.rf jX9_adds) s0.1) ?_
      refine g_iinc _ 4 113 [(3, .int ((x3 + 2))), (2, .int ((x2 + 1))), (4, .int (1)), (0, .ref a0), (1, .int (x1))] dX9_row_110 rfl rfl rfl (Nat.le_of_ble_eq_true rfl) rfl ?_
      refine g_goto 32 dX9_row_113 rfl ?_
      exact g_sub [3, 4, 1, 0] _ rfl (h8 c1 c2)

def bX9_row_0 (N : Nat) (K : Nat) (M : gM) (a0 : Nat) (k : Nat → (Nat → Nat → Int32) → Nat → Int32 → Int32 → Int32 → Int32 × (Nat → Nat → Int32)) : Int32 × (Nat → Nat → Int32) := (if (g_mi M a0 13) = 0 then ((fX9_refuses a0 (-6)), g_mi (mX9_refuses (g_wi M a0 13 0) a0 (-6))) else (k 0 (g_mi (g_wi (g_wi M a0 13 0) a0 6 (i_rm (g_mi M a0 13) 2))) a0 (g_mi M a0 13) 0 0))
def eX9_row_0 (N : Nat) (K : Nat) (M : gM) (a0 : Nat) (k : Nat → (Nat → Nat → Int32) → Nat → Int32 → Int32 → Int32 → Prop) : Prop := (((g_mi M a0 13) = 0) → EX9_refuses (g_wi M a0 13 0) a0 (-6)) ∧ (if (g_mi M a0 13) = 0 then True else (k 0 (g_mi (g_wi (g_wi M a0 13 0) a0 6 (i_rm (g_mi M a0 13) 2))) a0 (g_mi M a0 13) 0 0))
def bX9_row_32 (N : Nat) (K : Nat) (M : gM) (f : Nat → Nat → Int32) (a0 : Nat) (x1 : Int32) (x2 : Int32) (x3 : Int32) (k : Nat → (Nat → Nat → Int32) → Nat → Int32 → Int32 → Int32 → Int32 × (Nat → Nat → Int32)) : Int32 × (Nat → Nat → Int32) := (if x1 < (x3 + 2) then ((fX9_settled a0 x2), g_mi (mX9_settled (g_wm M f (g_ml M)) a0 x2)) else (if (fX9_adds N K (g_wm M f (g_ml M)) a0 ((((g_mi (g_wm M f (g_ml M)) (a0 + 7) (x3).toNatClampNeg) &&& 255) * 4) + ((g_mi (g_wm M f (g_ml M)) (a0 + 7) ((x3 + 1)).toNatClampNeg) &&& 255))) < 0 then (k 0 (g_mi (g_wi (mX9_adds N K (g_wm M f (g_ml M)) a0 ((((g_mi (g_wm M f (g_ml M)) (a0 + 7) (x3).toNatClampNeg) &&& 255) * 4) + ((g_mi (g_wm M f (g_ml M)) (a0 + 7) ((x3 + 1)).toNatClampNeg) &&& 255))) a0 6 ((g_mi (mX9_adds N K (g_wm M f (g_ml M)) a0 ((((g_mi (g_wm M f (g_ml M)) (a0 + 7) (x3).toNatClampNeg) &&& 255) * 4) + ((g_mi (g_wm M f (g_ml M)) (a0 + 7) ((x3 + 1)).toNatClampNeg) &&& 255))) a0 6) + 1))) a0 x1 (x2 + 0) (x3 + 2)) else (k 0 (g_mi (g_wi (mX9_adds N K (g_wm M f (g_ml M)) a0 ((((g_mi (g_wm M f (g_ml M)) (a0 + 7) (x3).toNatClampNeg) &&& 255) * 4) + ((g_mi (g_wm M f (g_ml M)) (a0 + 7) ((x3 + 1)).toNatClampNeg) &&& 255))) a0 6 ((g_mi (mX9_adds N K (g_wm M f (g_ml M)) a0 ((((g_mi (g_wm M f (g_ml M)) (a0 + 7) (x3).toNatClampNeg) &&& 255) * 4) + ((g_mi (g_wm M f (g_ml M)) (a0 + 7) ((x3 + 1)).toNatClampNeg) &&& 255))) a0 6) + 0))) a0 x1 (x2 + 1) (x3 + 2))))
def eX9_row_32 (N : Nat) (K : Nat) (M : gM) (f : Nat → Nat → Int32) (a0 : Nat) (x1 : Int32) (x2 : Int32) (x3 : Int32) (k : Nat → (Nat → Nat → Int32) → Nat → Int32 → Int32 → Int32 → Prop) : Prop := ((¬ x1 < (x3 + 2)) → vp_in (x3) 400) ∧ ((¬ x1 < (x3 + 2)) → vp_in ((x3 + 1)) 400) ∧ ((¬ x1 < (x3 + 2)) → EX9_adds N K (g_wm M f (g_ml M)) a0 ((((g_mi (g_wm M f (g_ml M)) (a0 + 7) (x3).toNatClampNeg) &&& 255) * 4) + ((g_mi (g_wm M f (g_ml M)) (a0 + 7) ((x3 + 1)).toNatClampNeg) &&& 255))) ∧ (if x1 < (x3 + 2) then True else (if (fX9_adds N K (g_wm M f (g_ml M)) a0 ((((g_mi (g_wm M f (g_ml M)) (a0 + 7) (x3).toNatClampNeg) &&& 255) * 4) + ((g_mi (g_wm M f (g_ml M)) (a0 + 7) ((x3 + 1)).toNatClampNeg) &&& 255))) < 0 then (k 0 (g_mi (g_wi (mX9_adds N K (g_wm M f (g_ml M)) a0 ((((g_mi (g_wm M f (g_ml M)) (a0 + 7) (x3).toNatClampNeg) &&& 255) * 4) + ((g_mi (g_wm M f (g_ml M)) (a0 + 7) ((x3 + 1)).toNatClampNeg) &&& 255))) a0 6 ((g_mi (mX9_adds N K (g_wm M f (g_ml M)) a0 ((((g_mi (g_wm M f (g_ml M)) (a0 + 7) (x3).toNatClampNeg) &&& 255) * 4) + ((g_mi (g_wm M f (g_ml M)) (a0 + 7) ((x3 + 1)).toNatClampNeg) &&& 255))) a0 6) + 1))) a0 x1 (x2 + 0) (x3 + 2)) else (k 0 (g_mi (g_wi (mX9_adds N K (g_wm M f (g_ml M)) a0 ((((g_mi (g_wm M f (g_ml M)) (a0 + 7) (x3).toNatClampNeg) &&& 255) * 4) + ((g_mi (g_wm M f (g_ml M)) (a0 + 7) ((x3 + 1)).toNatClampNeg) &&& 255))) a0 6 ((g_mi (mX9_adds N K (g_wm M f (g_ml M)) a0 ((((g_mi (g_wm M f (g_ml M)) (a0 + 7) (x3).toNatClampNeg) &&& 255) * 4) + ((g_mi (g_wm M f (g_ml M)) (a0 + 7) ((x3 + 1)).toNatClampNeg) &&& 255))) a0 6) + 0))) a0 x1 (x2 + 1) (x3 + 2))))
def wX9_row (N : Nat) (K : Nat) (M : gM) : Nat → Nat → (Nat → Nat → Int32) → Nat → Int32 → Int32 → Int32 → Int32 × (Nat → Nat → Int32)
  | 0, _, f, _, _, _, _ => (0, f)
  | n + 1, h, f, a0, x1, x2, x3 => bX9_row_32 N K M f a0 x1 x2 x3 (wX9_row N K M n)
def vX9_row (N : Nat) (K : Nat) (M : gM) : Nat → Nat → (Nat → Nat → Int32) → Nat → Int32 → Int32 → Int32 → Prop
  | 0, _, _, _, _, _, _ => False
  | n + 1, h, f, a0, x1, x2, x3 => eX9_row_32 N K M f a0 x1 x2 x3 (vX9_row N K M n)
set_option maxRecDepth 10000 in
theorem lpX9_row {X : gX} {d mc ms : Nat} {Q : Option Value → gM → Prop} (N : Nat) (K : Nat) (M : gM) : ∀ n : Nat, (∀ (f : Nat → Nat → Int32) (a0 : Nat) (x1 : Int32) (x2 : Int32) (x3 : Int32), Mo M a0 → vX9_row N K M n 0 f a0 x1 x2 x3 → Q (some (.int (wX9_row N K M n 0 f a0 x1 x2 x3).1)) (g_wm M (wX9_row N K M n 0 f a0 x1 x2 x3).2 (g_ml M)) → Go X (d + K + 10) mc ms kX9_row Q 32 [(0, .ref a0), (1, .int (x1)), (2, .int (x2)), (3, .int (x3))] [] (g_wm M f (g_ml M)) 0 0) := by
  intro n
  induction n with
  | zero => exact fun _ _ _ _ _ _ h _ => h.elim
  | succ n ih =>
    intro f a0 x1 x2 x3 s0 hT hQ
    rw [vX9_row] at hT
    rw [wX9_row] at hQ
    unfold bX9_row_32 at hQ
    unfold eX9_row_32 at hT
    obtain ⟨b4, b5, b6, hT⟩ := hT
    exact sX9_row_32 (M := (g_wm M f (g_ml M))) (Mo.sm Sm.wm s0) (Nat.zero_le _) (Nat.zero_le _) (fun c1 => by simp only [if_pos c1] at hQ; exact Sm.q (Sm.tr Sm.wm (Sm.tr Sm.rf jX9_settled)) hQ) b4 b5 b6 (fun c1 c2 => by simp only [if_neg c1, if_pos c2] at hQ hT; exact Sm.g (Sm.tr Sm.wm (Sm.wi (Sm.tr Sm.rf jX9_adds))) (ih _ _ _ _ _ (s0) hT hQ)) (fun c1 c2 => by simp only [if_neg c1, if_neg c2] at hQ hT; exact Sm.g (Sm.tr Sm.wm (Sm.wi (Sm.tr Sm.rf jX9_adds))) (ih _ _ _ _ _ (s0) hT hQ))
def fX9_row (N : Nat) (K : Nat) (M : gM) (a0 : Nat) : Int32 := (bX9_row_0 N K M a0 (wX9_row N K M N)).1
def mX9_row (N : Nat) (K : Nat) (M : gM) (a0 : Nat) : gM := g_wm M (bX9_row_0 N K M a0 (wX9_row N K M N)).2 (g_ml M)
theorem jX9_row {N : Nat} {K : Nat} {M : gM} {a0 : Nat} : Sm M (mX9_row N K M a0) := Sm.wm
def EX9_row (N : Nat) (K : Nat) (M : gM) (a0 : Nat) : Prop := eX9_row_0 N K M a0 (vX9_row N K M N)
theorem tX9_row {N : Nat} {K : Nat} {X : gX} {d mc ms : Nat} {Q : Option Value → gM → Prop} {M : gM} {a0 : Nat} (s0 : Mo M a0) (hE : EX9_row N K M a0) (hQ : Q (some (.int (fX9_row N K M a0))) (mX9_row N K M a0)) : Cn X (d + K + 10) mc ms kX9_row [.ref a0] M Q := by
  unfold fX9_row mX9_row at hQ
  unfold bX9_row_0 at hQ
  unfold EX9_row eX9_row_0 at hE
  obtain ⟨b2, hT⟩ := hE
  have ih := lpX9_row (X := X) (d := d) (mc := mc) (ms := ms) (Q := Q) N K M N
  exact sX9_row_0 s0 (fun c1 => by simp only [if_neg c1] at hQ hT; exact Sm.g (Sm.wi (Sm.wi Sm.rf)) (ih _ _ _ _ _ (s0) hT hQ)) b2 (fun c1 => by simp only [if_pos c1] at hQ; exact Sm.q (Sm.tr (Sm.wi Sm.rf) jX9_refuses) hQ)
/-! X9_orders  -/
set_option maxRecDepth 4000 in
theorem sX9_orders_0 {N : Nat} {K : Nat} {X : gX} {d mc ms : Nat} {Q : Option Value → gM → Prop} {M : gM} {a0 : Nat} (s0 : Mo M a0) (b1 : EX9_readsAs N K (g_wi M a0 40 (-1)) a0 1) (b2 : (¬ (fX9_readsAs N K (g_wi M a0 40 (-1)) a0 1) = 0) → EX9_laysAside N (mX9_readsAs N K (g_wi M a0 40 (-1)) a0 1) a0 1) (h3 : (¬ (fX9_readsAs N K (g_wi M a0 40 (-1)) a0 1) = 0) → Go X (d + K + 14) mc ms kX9_orders Q 27 [(0, .ref a0), (1, .int (0))] [] (mX9_laysAside N (mX9_readsAs N K (g_wi M a0 40 (-1)) a0 1) a0 1) 0 0) (b4 : ((fX9_readsAs N K (g_wi M a0 40 (-1)) a0 1) = 0) → EX9_refuses (mX9_readsAs N K (g_wi M a0 40 (-1)) a0 1) a0 (-6)) (h5 : ((fX9_readsAs N K (g_wi M a0 40 (-1)) a0 1) = 0) → Q (some (.int ((fX9_refuses a0 (-6))))) (mX9_refuses (mX9_readsAs N K (g_wi M a0 40 (-1)) a0 1) a0 (-6))) : Cn X (d + K + 14) mc ms kX9_orders [.ref a0] M Q := by
  refine g_meth rfl rfl (Nat.le_of_ble_eq_true rfl) rfl ?_
  refine g_aload_n 0 1 dX9_orders_0 rfl rfl ?_
  refine g_iconst ((-1)) 2 dX9_orders_1 rfl rfl ?_
  refine g_putI 5 dX9_orders_2 rfl flX9_94 s0.1 ?_
  refine g_aload_n 0 6 dX9_orders_5 rfl rfl ?_
  refine g_iconst (1) 7 dX9_orders_6 rfl rfl ?_
  refine g_callV (mc1 := 0) (ms1 := 0) (b := a0) (rest := []) (av := [.int (1)]) kX9_readsAs 10 dX9_orders_7 rfl rfl mbX9_256 imX9_readsAs seX9_readsAs gcl9.1 (Sm.k (Sm.wi Sm.rf) s0.1) (Nat.le_of_ble_eq_true rfl) (Nat.zero_le _) (Nat.zero_le _) (Cn.cd (show d + 5 + K + 8 = d + K + 13 by omega) (tX9_readsAs (d := d + 5) (N := N) (K := K) (Mo.sm (Sm.wi Sm.rf) s0) (b1) ?_))
  show Go X (d + K + 14) mc ms kX9_orders Q 10 [(0, .ref a0)] [.int ((fX9_readsAs N K (g_wi M a0 40 (-1)) a0 1))] (mX9_readsAs N K (g_wi M a0 40 (-1)) a0 1) 0 0
  refine g_if_ne 20 13 dX9_orders_10 rfl rfl (fun c1 => ?_) (fun c1 => ?_)
  · skip
    refine g_aload_n 0 21 dX9_orders_20 rfl rfl ?_
    refine g_iconst (1) 22 dX9_orders_21 rfl rfl ?_
    refine g_callV (mc1 := 0) (ms1 := 0) (b := a0) (rest := []) (av := [.int (1)]) kX9_laysAside 25 dX9_orders_22 rfl rfl mbX9_365 imX9_laysAside seX9_laysAside gcl9.1 (Sm.k (Sm.tr (Sm.wi Sm.rf) jX9_readsAs) s0.1) (Nat.le_of_ble_eq_true rfl) (Nat.zero_le _) (Nat.zero_le _) (tX9_laysAside (N := N) (Mo.sm (Sm.tr (Sm.wi Sm.rf) jX9_readsAs) s0) (b2 c1) ?_)
    show Go X (d + K + 14) mc ms kX9_orders Q 25 [(0, .ref a0)] [] (mX9_laysAside N (mX9_readsAs N K (g_wi M a0 40 (-1)) a0 1) a0 1) 0 0
    refine g_iconst (0) 26 dX9_orders_25 rfl rfl ?_
    refine g_istore_n 27 [(1, .int (0)), (0, .ref a0)] dX9_orders_26 rfl (Nat.le_of_ble_eq_true rfl) rfl ?_
    exact g_sub [1, 0] _ rfl (h3 c1)
  · skip
    refine g_aload_n 0 14 dX9_orders_13 rfl rfl ?_
    refine g_bipush ((-6)) 16 dX9_orders_14 rfl rfl ?_
    refine g_callV (mc1 := 0) (ms1 := 0) (b := a0) (rest := []) (av := [.int ((-6))]) kX9_refuses 19 dX9_orders_16 rfl rfl mbX9_103 imX9_refuses seX9_refuses gcl9.1 (Sm.k (Sm.tr (Sm.wi Sm.rf) jX9_readsAs) s0.1) (Nat.le_of_ble_eq_true rfl) (Nat.zero_le _) (Nat.zero_le _) (tX9_refuses (Mo.sm (Sm.tr (Sm.wi Sm.rf) jX9_readsAs) s0) (b4 c1) ?_)
    show Go X (d + K + 14) mc ms kX9_orders Q 19 [(0, .ref a0)] [.int ((fX9_refuses a0 (-6)))] (mX9_refuses (mX9_readsAs N K (g_wi M a0 40 (-1)) a0 1) a0 (-6)) 0 0
    exact g_iret dX9_orders_19 rfl (Nat.zero_le _) (Nat.zero_le _) (h5 c1)

set_option maxRecDepth 4000 in
theorem sX9_orders_27 {N : Nat} {K : Nat} {X : gX} {d mc ms : Nat} {Q : Option Value → gM → Prop} {M : gM} {c z : Nat} {a0 : Nat} {x1 : Int32} (s0 : Mo M a0) (w1 : c ≤ mc) (w2 : z ≤ ms) (b3 : (3024 ≤ x1) → EX9_lays N M a0 6) (h4 : (3024 ≤ x1) → Go X (d + K + 14) mc ms kX9_orders Q 96 [(0, .ref a0), (1, .int ((g_mi M a0 38))), (2, .int (((g_mi (g_wi (g_wi (g_wi (mX9_lays N M a0 6) a0 27 0) a0 28 (-1)) a0 41 2400) a0 41) + (g_mi (g_wi (g_wi (g_wi (mX9_lays N M a0 6) a0 27 0) a0 28 (-1)) a0 41 2400) (a0 + 2) 211)))), (3, .int (0))] [] (g_wi (g_wi (g_wi (mX9_lays N M a0 6) a0 27 0) a0 28 (-1)) a0 41 2400) c z) (b5 : (¬ 3024 ≤ x1) → vp_in (x1) 3024) (h6 : (¬ 3024 ≤ x1) → Go X (d + K + 14) mc ms kX9_orders Q 27 [(0, .ref a0), (1, .int ((x1 + 1)))] [] (g_wi M (a0 + 20) (x1).toNatClampNeg (g_mi M (a0 + 19) (x1).toNatClampNeg)) c z) : Go X (d + K + 14) mc ms kX9_orders Q 27 [(0, .ref a0), (1, .int (x1))] [] M c z := by
  refine g_iload_n 1 28 dX9_orders_27 rfl rfl ?_
  refine g_sipush (3024) 31 dX9_orders_28 rfl rfl ?_
  refine g_icmp_ge 52 34 dX9_orders_31 rfl rfl (fun c1 => ?_) (fun c1 => ?_)
  · skip
    refine g_aload_n 0 53 dX9_orders_52 rfl rfl ?_
    refine g_getI 56 dX9_orders_53 rfl flX9_11 s0.1 ?_
    refine g_istore_n 57 [(1, .int ((g_mi M a0 38))), (0, .ref a0)] dX9_orders_56 rfl (Nat.le_of_ble_eq_true rfl) rfl ?_
    refine g_aload_n 1 58 dX9_orders_57 rfl rfl ?_
    refine g_bipush (6) 60 dX9_orders_58 rfl rfl ?_
    refine g_callV (mc1 := 0) (ms1 := 0) (b := a0) (rest := []) (av := [.int (6)]) kX9_lays 63 dX9_orders_60 rfl rfl mbX9_260 imX9_lays seX9_lays gcl9.1 s0.1 (Nat.le_of_ble_eq_true rfl) (w1) (w2) (tX9_lays (N := N) s0 (b3 c1) ?_)
    show Go X (d + K + 14) mc ms kX9_orders Q 63 [(1, .int ((g_mi M a0 38))), (0, .ref a0)] [] (mX9_lays N M a0 6) c z
    refine g_aload_n 1 64 dX9_orders_63 rfl rfl ?_
    refine g_iconst (0) 65 dX9_orders_64 rfl rfl ?_
    refine g_putI 68 dX9_orders_65 rfl flX9_305 (Sm.k (Sm.tr Sm.rf jX9_lays) s0.1) ?_
    refine g_aload_n 1 69 dX9_orders_68 rfl rfl ?_
    refine g_iconst ((-1)) 70 dX9_orders_69 rfl rfl ?_
    refine g_putI 73 dX9_orders_70 rfl flX9_308 (Sm.k (Sm.wi (Sm.tr Sm.rf jX9_lays)) s0.1) ?_
    refine g_aload_n 1 74 dX9_orders_73 rfl rfl ?_
    refine g_sipush (2400) 77 dX9_orders_74 rfl rfl ?_
    refine g_putI 80 dX9_orders_77 rfl flX9_440 (Sm.k (Sm.wi (Sm.wi (Sm.tr Sm.rf jX9_lays))) s0.1) ?_
    refine g_aload_n 1 81 dX9_orders_80 rfl rfl ?_
    refine g_getI 84 dX9_orders_81 rfl flX9_440 (Sm.k (Sm.wi (Sm.wi (Sm.wi (Sm.tr Sm.rf jX9_lays)))) s0.1) ?_
    refine g_aload_n 1 85 dX9_orders_84 rfl rfl ?_
    refine g_getR 88 (a0 + 2) dX9_orders_85 rfl flX9_28 (Sm.k (Sm.wi (Sm.wi (Sm.wi (Sm.tr Sm.rf jX9_lays)))) s0.1) (Sm.r (Sm.wi (Sm.wi (Sm.wi (Sm.tr Sm.rf jX9_lays)))) s0.2.2.2.1) ?_
    refine g_sipush (211) 91 dX9_orders_88 rfl rfl ?_
    refine h_iaload 92 211 dX9_orders_91 rfl rfl (Sm.k (Sm.wi (Sm.wi (Sm.wi (Sm.tr Sm.rf jX9_lays)))) s0.2.2.2.2.1) (vp_lit rfl) ?_
    refine g_iadd 93 dX9_orders_92 rfl ?_
    refine g_istore_n 94 [(2, .int (((g_mi (g_wi (g_wi (g_wi (mX9_lays N M a0 6) a0 27 0) a0 28 (-1)) a0 41 2400) a0 41) + (g_mi (g_wi (g_wi (g_wi (mX9_lays N M a0 6) a0 27 0) a0 28 (-1)) a0 41 2400) (a0 + 2) 211)))), (1, .int ((g_mi M a0 38))), (0, .ref a0)] dX9_orders_93 rfl (Nat.le_of_ble_eq_true rfl) rfl ?_
    refine g_iconst (0) 95 dX9_orders_94 rfl rfl ?_
    refine g_istore_n 96 [(3, .int (0)), (2, .int (((g_mi (g_wi (g_wi (g_wi (mX9_lays N M a0 6) a0 27 0) a0 28 (-1)) a0 41 2400) a0 41) + (g_mi (g_wi (g_wi (g_wi (mX9_lays N M a0 6) a0 27 0) a0 28 (-1)) a0 41 2400) (a0 + 2) 211)))), (1, .int ((g_mi M a0 38))), (0, .ref a0)] dX9_orders_95 rfl (Nat.le_of_ble_eq_true rfl) rfl ?_
    exact g_sub [3, 2, 1, 0] _ rfl (h4 c1)
  · skip
    refine g_aload_n 0 35 dX9_orders_34 rfl rfl ?_
    refine g_getR 38 (a0 + 20) dX9_orders_35 rfl flX9_87 s0.1 s0.2.2.2.2.2.2.2.2.2.2.2.2.2.2.2.2.2.2.2.2.2.2.2.2.2.2.2.2.2.2.2.2.2.2.2.2.2.2.2.1 ?_
    refine g_iload_n 1 39 dX9_orders_38 rfl rfl ?_
    refine g_aload_n 0 40 dX9_orders_39 rfl rfl ?_
    refine g_getR 43 (a0 + 19) dX9_orders_40 rfl flX9_84 s0.1 s0.2.2.2.2.2.2.2.2.2.2.2.2.2.2.2.2.2.2.2.2.2.2.2.2.2.2.2.2.2.2.2.2.2.2.2.2.2.1 ?_
    refine g_iload_n 1 44 dX9_orders_43 rfl rfl ?_
    refine h_iaload 45 (x1).toNatClampNeg dX9_orders_44 rfl rfl s0.2.2.2.2.2.2.2.2.2.2.2.2.2.2.2.2.2.2.2.2.2.2.2.2.2.2.2.2.2.2.2.2.2.2.2.2.2.2.1 (b5 c1) ?_
    refine h_iastore 46 (x1).toNatClampNeg dX9_orders_45 rfl rfl s0.2.2.2.2.2.2.2.2.2.2.2.2.2.2.2.2.2.2.2.2.2.2.2.2.2.2.2.2.2.2.2.2.2.2.2.2.2.2.2.2.1 (b5 c1) ?_
    refine g_iinc _ 1 49 [(1, .int ((x1 + 1))), (0, .ref a0)] dX9_orders_46 rfl rfl rfl (Nat.le_of_ble_eq_true rfl) rfl ?_
    refine g_goto 27 dX9_orders_49 rfl ?_
    exact g_sub [1, 0] _ rfl (h6 c1)

set_option maxRecDepth 4000 in
theorem sX9_orders_96 {N : Nat} {K : Nat} {X : gX} {d mc ms : Nat} {Q : Option Value → gM → Prop} {M : gM} {c z : Nat} {a0 : Nat} {x1 : Int32} {x2 : Int32} {x3 : Int32} (s0 : Mo M a0) (w1 : c ≤ mc) (w2 : z ≤ ms) (h3 : (x2 ≤ (g_mi M a0 41)) → Q (some (.int ((fX9_good0 a0 (g_mi M a0 27))))) (mX9_good0 M a0 (g_mi M a0 27))) (b4 : (¬ x2 ≤ (g_mi M a0 41)) → EX9_runs N K M a0 x2) (b5 : (¬ x2 ≤ (g_mi M a0 41)) → ((fX9_runs N K M a0 x2) = 0) → EX9_takesBack N (mX9_runs N K M a0 x2) a0 1) (h6 : (¬ x2 ≤ (g_mi M a0 41)) → ((fX9_runs N K M a0 x2) = 0) → Go X (d + K + 14) mc ms kX9_orders Q 123 [(0, .ref a0), (1, .int (x1)), (3, .int (x3)), (4, .int (0))] [] (mX9_takesBack N (mX9_runs N K M a0 x2) a0 1) c z) (h7 : (¬ x2 ≤ (g_mi M a0 41)) → (¬ (fX9_runs N K M a0 x2) = 0) → Go X (d + K + 14) mc ms kX9_orders Q 96 [(0, .ref a0), (1, .int (x1)), (2, .int (x2)), (3, .int ((x3 + 1)))] [] (mX9_runs N K M a0 x2) c z) : Go X (d + K + 14) mc ms kX9_orders Q 96 [(0, .ref a0), (1, .int (x1)), (2, .int (x2)), (3, .int (x3))] [] M c z := by
  refine g_aload_n 0 97 dX9_orders_96 rfl rfl ?_
  refine g_getI 100 dX9_orders_97 rfl flX9_440 s0.1 ?_
  refine g_iload_n 2 101 dX9_orders_100 rfl rfl ?_
  refine g_icmp_ge 174 104 dX9_orders_101 rfl rfl (fun c1 => ?_) (fun c1 => ?_)
  · skip
    refine g_aload_n 0 175 dX9_orders_174 rfl rfl ?_
    refine g_aload_n 0 176 dX9_orders_175 rfl rfl ?_
    refine g_getI 179 dX9_orders_176 rfl flX9_305 s0.1 ?_
    refine g_callV (mc1 := 0) (ms1 := 0) (b := a0) (rest := []) (av := [.int ((g_mi M a0 27))]) kX9_good0 182 dX9_orders_179 rfl rfl mbX9_14 imX9_good0 seX9_good0 gcl9.1 s0.1 (Nat.le_of_ble_eq_true rfl) (w1) (w2) (tX9_good0 s0 ?_)
    show Go X (d + K + 14) mc ms kX9_orders Q 182 [(0, .ref a0), (1, .int (x1)), (2, .int (x2)), (3, .int (x3))] [.int ((fX9_good0 a0 (g_mi M a0 27)))] (mX9_good0 M a0 (g_mi M a0 27)) c z
    exact g_iret dX9_orders_182 rfl (w1) (w2) (h3 c1)
  · skip
    refine g_aload_n 0 105 dX9_orders_104 rfl rfl ?_
    refine g_iload_n 2 106 dX9_orders_105 rfl rfl ?_
    refine g_callV (mc1 := 0) (ms1 := 0) (b := a0) (rest := []) (av := [.int (x2)]) kX9_runs 109 dX9_orders_106 rfl rfl mbX9_443 imX9_runs seX9_runs gcl9.1 s0.1 (Nat.le_of_ble_eq_true rfl) (w1) (w2) (tX9_runs (N := N) (K := K) s0 (b4 c1) ?_)
    show Go X (d + K + 14) mc ms kX9_orders Q 109 [(0, .ref a0), (1, .int (x1)), (2, .int (x2)), (3, .int (x3))] [.int ((fX9_runs N K M a0 x2))] (mX9_runs N K M a0 x2) c z
    refine g_if_eq 115 112 dX9_orders_109 rfl rfl (fun c2 => ?_) (fun c2 => ?_)
    · skip
      refine g_aload_n 0 116 dX9_orders_115 rfl rfl ?_
      refine g_iconst (1) 117 dX9_orders_116 rfl rfl ?_
      refine g_callV (mc1 := 0) (ms1 := 0) (b := a0) (rest := []) (av := [.int (1)]) kX9_takesBack 120 dX9_orders_117 rfl rfl mbX9_446 imX9_takesBack seX9_takesBack gcl9.1 (Sl.k (Sl.tr Sl.rf jX9_runs) s0.1) (Nat.le_of_ble_eq_true rfl) (w1) (w2) (tX9_takesBack (N := N) (Mo.sl (Sl.tr Sl.rf jX9_runs) s0) (b5 c1 c2) ?_)
      show Go X (d + K + 14) mc ms kX9_orders Q 120 [(0, .ref a0), (1, .int (x1)), (2, .int (x2)), (3, .int (x3))] [] (mX9_takesBack N (mX9_runs N K M a0 x2) a0 1) c z
      refine g_iconst (0) 121 dX9_orders_120 rfl rfl ?_
      refine g_istore 123 [(4, .int (0)), (0, .ref a0), (1, .int (x1)), (2, .int (x2)), (3, .int (x3))] dX9_orders_121 rfl (Nat.le_of_ble_eq_true rfl) rfl ?_
      exact g_sub [1, 2, 4, 0] _ rfl (h6 c1 c2)
    · skip
      refine g_goto 168 dX9_orders_112 rfl ?_
      refine g_iinc _ 3 171 [(3, .int ((x3 + 1))), (0, .ref a0), (1, .int (x1)), (2, .int (x2))] dX9_orders_168 rfl rfl rfl (Nat.le_of_ble_eq_true rfl) rfl ?_
      refine g_goto 96 dX9_orders_171 rfl ?_
      exact g_sub [1, 2, 3, 0] _ rfl (h7 c1 c2)

set_option maxRecDepth 4000 in
theorem sX9_orders_123 {K : Nat} {X : gX} {d mc ms : Nat} {Q : Option Value → gM → Prop} {M : gM} {c z : Nat} {a0 : Nat} {x1 : Int32} {x3 : Int32} {x4 : Int32} (s0 : Mo M a0) (w1 : c ≤ mc) (w2 : z ≤ ms) (b3 : (3024 ≤ x4) → EX9_refuses (g_wi (g_wi M a0 38 x1) a0 40 x3) a0 (-3)) (h4 : (3024 ≤ x4) → Q (some (.int ((fX9_refuses a0 (-3))))) (mX9_refuses (g_wi (g_wi M a0 38 x1) a0 40 x3) a0 (-3))) (b5 : (¬ 3024 ≤ x4) → vp_in (x4) 3024) (h6 : (¬ 3024 ≤ x4) → Go X (d + K + 14) mc ms kX9_orders Q 123 [(0, .ref a0), (1, .int (x1)), (3, .int (x3)), (4, .int ((x4 + 1)))] [] (g_wi M (a0 + 19) (x4).toNatClampNeg (g_mi M (a0 + 20) (x4).toNatClampNeg)) c z) : Go X (d + K + 14) mc ms kX9_orders Q 123 [(0, .ref a0), (1, .int (x1)), (3, .int (x3)), (4, .int (x4))] [] M c z := by
  refine g_iload 3 125 dX9_orders_123 rfl rfl ?_
  refine g_sipush (3024) 128 dX9_orders_125 rfl rfl ?_
  refine g_icmp_ge 151 131 dX9_orders_128 rfl rfl (fun c1 => ?_) (fun c1 => ?_)
  · skip
    refine g_aload_n 0 152 dX9_orders_151 rfl rfl ?_
    refine g_iload_n 1 153 dX9_orders_152 rfl rfl ?_
    refine g_putI 156 dX9_orders_153 rfl flX9_11 s0.1 ?_
    refine g_aload_n 0 157 dX9_orders_156 rfl rfl ?_
    refine g_iload_n 2 158 dX9_orders_157 rfl rfl ?_
    refine g_putI 161 dX9_orders_158 rfl flX9_94 (Sm.k (Sm.wi Sm.rf) s0.1) ?_
    refine g_aload_n 0 162 dX9_orders_161 rfl rfl ?_
    refine g_bipush ((-3)) 164 dX9_orders_162 rfl rfl ?_
    refine g_callV (mc1 := 0) (ms1 := 0) (b := a0) (rest := []) (av := [.int ((-3))]) kX9_refuses 167 dX9_orders_164 rfl rfl mbX9_103 imX9_refuses seX9_refuses gcl9.1 (Sm.k (Sm.wi (Sm.wi Sm.rf)) s0.1) (Nat.le_of_ble_eq_true rfl) (w1) (w2) (tX9_refuses (Mo.sm (Sm.wi (Sm.wi Sm.rf)) s0) (b3 c1) ?_)
    show Go X (d + K + 14) mc ms kX9_orders Q 167 [(0, .ref a0), (1, .int (x1)), (3, .int (x3)), (4, .int (x4))] [.int ((fX9_refuses a0 (-3)))] (mX9_refuses (g_wi (g_wi M a0 38 x1) a0 40 x3) a0 (-3)) c z
    exact g_iret dX9_orders_167 rfl (w1) (w2) (h4 c1)
  · skip
    refine g_aload_n 0 132 dX9_orders_131 rfl rfl ?_
    refine g_getR 135 (a0 + 19) dX9_orders_132 rfl flX9_84 s0.1 s0.2.2.2.2.2.2.2.2.2.2.2.2.2.2.2.2.2.2.2.2.2.2.2.2.2.2.2.2.2.2.2.2.2.2.2.2.2.1 ?_
    refine g_iload 3 137 dX9_orders_135 rfl rfl ?_
    refine g_aload_n 0 138 dX9_orders_137 rfl rfl ?_
    refine g_getR 141 (a0 + 20) dX9_orders_138 rfl flX9_87 s0.1 s0.2.2.2.2.2.2.2.2.2.2.2.2.2.2.2.2.2.2.2.2.2.2.2.2.2.2.2.2.2.2.2.2.2.2.2.2.2.2.2.1 ?_
    refine g_iload 3 143 dX9_orders_141 rfl rfl ?_
    refine h_iaload 144 (x4).toNatClampNeg dX9_orders_143 rfl rfl s0.2.2.2.2.2.2.2.2.2.2.2.2.2.2.2.2.2.2.2.2.2.2.2.2.2.2.2.2.2.2.2.2.2.2.2.2.2.2.2.2.1 (b5 c1) ?_
    refine h_iastore 145 (x4).toNatClampNeg dX9_orders_144 rfl rfl s0.2.2.2.2.2.2.2.2.2.2.2.2.2.2.2.2.2.2.2.2.2.2.2.2.2.2.2.2.2.2.2.2.2.2.2.2.2.2.1 (b5 c1) ?_
    refine g_iinc _ 3 148 [(4, .int ((x4 + 1))), (0, .ref a0), (1, .int (x1)), (3, .int (x3))] dX9_orders_145 rfl rfl rfl (Nat.le_of_ble_eq_true rfl) rfl ?_
    refine g_goto 123 dX9_orders_148 rfl ?_
    exact g_sub [1, 2, 3, 0] _ rfl (h6 c1)

def bX9_orders_0 (N : Nat) (K : Nat) (M : gM) (a0 : Nat) (k : Nat → (Nat → Nat → Int32) → (Nat → Nat → Int64) → Nat → Int32 → Int32 → Int32 → Int32 → Int32 × (Nat → Nat → Int32) × (Nat → Nat → Int64)) : Int32 × (Nat → Nat → Int32) × (Nat → Nat → Int64) := (if (fX9_readsAs N K (g_wi M a0 40 (-1)) a0 1) = 0 then ((fX9_refuses a0 (-6)), g_mi (mX9_refuses (mX9_readsAs N K (g_wi M a0 40 (-1)) a0 1) a0 (-6)), g_ml (mX9_refuses (mX9_readsAs N K (g_wi M a0 40 (-1)) a0 1) a0 (-6))) else (k 0 (g_mi (mX9_laysAside N (mX9_readsAs N K (g_wi M a0 40 (-1)) a0 1) a0 1)) (g_ml (mX9_laysAside N (mX9_readsAs N K (g_wi M a0 40 (-1)) a0 1) a0 1)) a0 0 0 0 0))
def eX9_orders_0 (N : Nat) (K : Nat) (M : gM) (a0 : Nat) (k : Nat → (Nat → Nat → Int32) → (Nat → Nat → Int64) → Nat → Int32 → Int32 → Int32 → Int32 → Prop) : Prop := (EX9_readsAs N K (g_wi M a0 40 (-1)) a0 1) ∧ ((¬ (fX9_readsAs N K (g_wi M a0 40 (-1)) a0 1) = 0) → EX9_laysAside N (mX9_readsAs N K (g_wi M a0 40 (-1)) a0 1) a0 1) ∧ (((fX9_readsAs N K (g_wi M a0 40 (-1)) a0 1) = 0) → EX9_refuses (mX9_readsAs N K (g_wi M a0 40 (-1)) a0 1) a0 (-6)) ∧ (if (fX9_readsAs N K (g_wi M a0 40 (-1)) a0 1) = 0 then True else (k 0 (g_mi (mX9_laysAside N (mX9_readsAs N K (g_wi M a0 40 (-1)) a0 1) a0 1)) (g_ml (mX9_laysAside N (mX9_readsAs N K (g_wi M a0 40 (-1)) a0 1) a0 1)) a0 0 0 0 0))
def bX9_orders_27 (N : Nat) (K : Nat) (M : gM) (f : Nat → Nat → Int32) (g : Nat → Nat → Int64) (a0 : Nat) (x1 : Int32) (k : Nat → (Nat → Nat → Int32) → (Nat → Nat → Int64) → Nat → Int32 → Int32 → Int32 → Int32 → Int32 × (Nat → Nat → Int32) × (Nat → Nat → Int64)) : Int32 × (Nat → Nat → Int32) × (Nat → Nat → Int64) := (if 3024 ≤ x1 then (k 1 (g_mi (g_wi (g_wi (g_wi (mX9_lays N (g_wm M f g) a0 6) a0 27 0) a0 28 (-1)) a0 41 2400)) (g_ml (g_wi (g_wi (g_wi (mX9_lays N (g_wm M f g) a0 6) a0 27 0) a0 28 (-1)) a0 41 2400)) a0 (g_mi (g_wm M f g) a0 38) ((g_mi (g_wi (g_wi (g_wi (mX9_lays N (g_wm M f g) a0 6) a0 27 0) a0 28 (-1)) a0 41 2400) a0 41) + (g_mi (g_wi (g_wi (g_wi (mX9_lays N (g_wm M f g) a0 6) a0 27 0) a0 28 (-1)) a0 41 2400) (a0 + 2) 211)) 0 0) else (k 0 (g_mi (g_wi (g_wm M f g) (a0 + 20) (x1).toNatClampNeg (g_mi (g_wm M f g) (a0 + 19) (x1).toNatClampNeg))) (g_ml (g_wi (g_wm M f g) (a0 + 20) (x1).toNatClampNeg (g_mi (g_wm M f g) (a0 + 19) (x1).toNatClampNeg))) a0 (x1 + 1) 0 0 0))
def eX9_orders_27 (N : Nat) (K : Nat) (M : gM) (f : Nat → Nat → Int32) (g : Nat → Nat → Int64) (a0 : Nat) (x1 : Int32) (k : Nat → (Nat → Nat → Int32) → (Nat → Nat → Int64) → Nat → Int32 → Int32 → Int32 → Int32 → Prop) : Prop := ((3024 ≤ x1) → EX9_lays N (g_wm M f g) a0 6) ∧ ((¬ 3024 ≤ x1) → vp_in (x1) 3024) ∧ (if 3024 ≤ x1 then (k 1 (g_mi (g_wi (g_wi (g_wi (mX9_lays N (g_wm M f g) a0 6) a0 27 0) a0 28 (-1)) a0 41 2400)) (g_ml (g_wi (g_wi (g_wi (mX9_lays N (g_wm M f g) a0 6) a0 27 0) a0 28 (-1)) a0 41 2400)) a0 (g_mi (g_wm M f g) a0 38) ((g_mi (g_wi (g_wi (g_wi (mX9_lays N (g_wm M f g) a0 6) a0 27 0) a0 28 (-1)) a0 41 2400) a0 41) + (g_mi (g_wi (g_wi (g_wi (mX9_lays N (g_wm M f g) a0 6) a0 27 0) a0 28 (-1)) a0 41 2400) (a0 + 2) 211)) 0 0) else (k 0 (g_mi (g_wi (g_wm M f g) (a0 + 20) (x1).toNatClampNeg (g_mi (g_wm M f g) (a0 + 19) (x1).toNatClampNeg))) (g_ml (g_wi (g_wm M f g) (a0 + 20) (x1).toNatClampNeg (g_mi (g_wm M f g) (a0 + 19) (x1).toNatClampNeg))) a0 (x1 + 1) 0 0 0))
def bX9_orders_96 (N : Nat) (K : Nat) (M : gM) (f : Nat → Nat → Int32) (g : Nat → Nat → Int64) (a0 : Nat) (x1 : Int32) (x2 : Int32) (x3 : Int32) (k : Nat → (Nat → Nat → Int32) → (Nat → Nat → Int64) → Nat → Int32 → Int32 → Int32 → Int32 → Int32 × (Nat → Nat → Int32) × (Nat → Nat → Int64)) : Int32 × (Nat → Nat → Int32) × (Nat → Nat → Int64) := (if x2 ≤ (g_mi (g_wm M f g) a0 41) then ((fX9_good0 a0 (g_mi (g_wm M f g) a0 27)), g_mi (mX9_good0 (g_wm M f g) a0 (g_mi (g_wm M f g) a0 27)), g_ml (mX9_good0 (g_wm M f g) a0 (g_mi (g_wm M f g) a0 27))) else (if (fX9_runs N K (g_wm M f g) a0 x2) = 0 then (k 2 (g_mi (mX9_takesBack N (mX9_runs N K (g_wm M f g) a0 x2) a0 1)) (g_ml (mX9_takesBack N (mX9_runs N K (g_wm M f g) a0 x2) a0 1)) a0 x1 0 x3 0) else (k 1 (g_mi (mX9_runs N K (g_wm M f g) a0 x2)) (g_ml (mX9_runs N K (g_wm M f g) a0 x2)) a0 x1 x2 (x3 + 1) 0)))
def eX9_orders_96 (N : Nat) (K : Nat) (M : gM) (f : Nat → Nat → Int32) (g : Nat → Nat → Int64) (a0 : Nat) (x1 : Int32) (x2 : Int32) (x3 : Int32) (k : Nat → (Nat → Nat → Int32) → (Nat → Nat → Int64) → Nat → Int32 → Int32 → Int32 → Int32 → Prop) : Prop := ((¬ x2 ≤ (g_mi (g_wm M f g) a0 41)) → EX9_runs N K (g_wm M f g) a0 x2) ∧ ((¬ x2 ≤ (g_mi (g_wm M f g) a0 41)) → ((fX9_runs N K (g_wm M f g) a0 x2) = 0) → EX9_takesBack N (mX9_runs N K (g_wm M f g) a0 x2) a0 1) ∧ (if x2 ≤ (g_mi (g_wm M f g) a0 41) then True else (if (fX9_runs N K (g_wm M f g) a0 x2) = 0 then (k 2 (g_mi (mX9_takesBack N (mX9_runs N K (g_wm M f g) a0 x2) a0 1)) (g_ml (mX9_takesBack N (mX9_runs N K (g_wm M f g) a0 x2) a0 1)) a0 x1 0 x3 0) else (k 1 (g_mi (mX9_runs N K (g_wm M f g) a0 x2)) (g_ml (mX9_runs N K (g_wm M f g) a0 x2)) a0 x1 x2 (x3 + 1) 0)))
def bX9_orders_123 (N : Nat) (K : Nat) (M : gM) (f : Nat → Nat → Int32) (g : Nat → Nat → Int64) (a0 : Nat) (x1 : Int32) (x3 : Int32) (x4 : Int32) (k : Nat → (Nat → Nat → Int32) → (Nat → Nat → Int64) → Nat → Int32 → Int32 → Int32 → Int32 → Int32 × (Nat → Nat → Int32) × (Nat → Nat → Int64)) : Int32 × (Nat → Nat → Int32) × (Nat → Nat → Int64) := (if 3024 ≤ x4 then ((fX9_refuses a0 (-3)), g_mi (mX9_refuses (g_wi (g_wi (g_wm M f g) a0 38 x1) a0 40 x3) a0 (-3)), g_ml (mX9_refuses (g_wi (g_wi (g_wm M f g) a0 38 x1) a0 40 x3) a0 (-3))) else (k 2 (g_mi (g_wi (g_wm M f g) (a0 + 19) (x4).toNatClampNeg (g_mi (g_wm M f g) (a0 + 20) (x4).toNatClampNeg))) (g_ml (g_wi (g_wm M f g) (a0 + 19) (x4).toNatClampNeg (g_mi (g_wm M f g) (a0 + 20) (x4).toNatClampNeg))) a0 x1 0 x3 (x4 + 1)))
def eX9_orders_123 (N : Nat) (K : Nat) (M : gM) (f : Nat → Nat → Int32) (g : Nat → Nat → Int64) (a0 : Nat) (x1 : Int32) (x3 : Int32) (x4 : Int32) (k : Nat → (Nat → Nat → Int32) → (Nat → Nat → Int64) → Nat → Int32 → Int32 → Int32 → Int32 → Prop) : Prop := ((3024 ≤ x4) → EX9_refuses (g_wi (g_wi (g_wm M f g) a0 38 x1) a0 40 x3) a0 (-3)) ∧ ((¬ 3024 ≤ x4) → vp_in (x4) 3024) ∧ (if 3024 ≤ x4 then True else (k 2 (g_mi (g_wi (g_wm M f g) (a0 + 19) (x4).toNatClampNeg (g_mi (g_wm M f g) (a0 + 20) (x4).toNatClampNeg))) (g_ml (g_wi (g_wm M f g) (a0 + 19) (x4).toNatClampNeg (g_mi (g_wm M f g) (a0 + 20) (x4).toNatClampNeg))) a0 x1 0 x3 (x4 + 1)))
def wX9_orders (N : Nat) (K : Nat) (M : gM) : Nat → Nat → (Nat → Nat → Int32) → (Nat → Nat → Int64) → Nat → Int32 → Int32 → Int32 → Int32 → Int32 × (Nat → Nat → Int32) × (Nat → Nat → Int64)
  | 0, _, f, g, _, _, _, _, _ => (0, f, g)
  | n + 1, h, f, g, a0, x1, x2, x3, x4 => if h = 0 then bX9_orders_27 N K M f g a0 x1 (wX9_orders N K M n) else if h = 1 then bX9_orders_96 N K M f g a0 x1 x2 x3 (wX9_orders N K M n) else bX9_orders_123 N K M f g a0 x1 x3 x4 (wX9_orders N K M n)
def vX9_orders (N : Nat) (K : Nat) (M : gM) : Nat → Nat → (Nat → Nat → Int32) → (Nat → Nat → Int64) → Nat → Int32 → Int32 → Int32 → Int32 → Prop
  | 0, _, _, _, _, _, _, _, _ => False
  | n + 1, h, f, g, a0, x1, x2, x3, x4 => if h = 0 then eX9_orders_27 N K M f g a0 x1 (vX9_orders N K M n) else if h = 1 then eX9_orders_96 N K M f g a0 x1 x2 x3 (vX9_orders N K M n) else eX9_orders_123 N K M f g a0 x1 x3 x4 (vX9_orders N K M n)
set_option maxRecDepth 10000 in
theorem lpX9_orders {X : gX} {d mc ms : Nat} {Q : Option Value → gM → Prop} (N : Nat) (K : Nat) (M : gM) : ∀ n : Nat, (∀ (f : Nat → Nat → Int32) (g : Nat → Nat → Int64) (a0 : Nat) (x1 : Int32) (x2 : Int32) (x3 : Int32) (x4 : Int32), Mo M a0 → vX9_orders N K M n 0 f g a0 x1 x2 x3 x4 → Q (some (.int (wX9_orders N K M n 0 f g a0 x1 x2 x3 x4).1)) (g_wm M (wX9_orders N K M n 0 f g a0 x1 x2 x3 x4).2.1 (wX9_orders N K M n 0 f g a0 x1 x2 x3 x4).2.2) → Go X (d + K + 14) mc ms kX9_orders Q 27 [(0, .ref a0), (1, .int (x1))] [] (g_wm M f g) 0 0) ∧ (∀ (f : Nat → Nat → Int32) (g : Nat → Nat → Int64) (a0 : Nat) (x1 : Int32) (x2 : Int32) (x3 : Int32) (x4 : Int32), Mo M a0 → vX9_orders N K M n 1 f g a0 x1 x2 x3 x4 → Q (some (.int (wX9_orders N K M n 1 f g a0 x1 x2 x3 x4).1)) (g_wm M (wX9_orders N K M n 1 f g a0 x1 x2 x3 x4).2.1 (wX9_orders N K M n 1 f g a0 x1 x2 x3 x4).2.2) → Go X (d + K + 14) mc ms kX9_orders Q 96 [(0, .ref a0), (1, .int (x1)), (2, .int (x2)), (3, .int (x3))] [] (g_wm M f g) 0 0) ∧ (∀ (f : Nat → Nat → Int32) (g : Nat → Nat → Int64) (a0 : Nat) (x1 : Int32) (x2 : Int32) (x3 : Int32) (x4 : Int32), Mo M a0 → vX9_orders N K M n 2 f g a0 x1 x2 x3 x4 → Q (some (.int (wX9_orders N K M n 2 f g a0 x1 x2 x3 x4).1)) (g_wm M (wX9_orders N K M n 2 f g a0 x1 x2 x3 x4).2.1 (wX9_orders N K M n 2 f g a0 x1 x2 x3 x4).2.2) → Go X (d + K + 14) mc ms kX9_orders Q 123 [(0, .ref a0), (1, .int (x1)), (3, .int (x3)), (4, .int (x4))] [] (g_wm M f g) 0 0) := by
  intro n
  induction n with
  | zero => exact ⟨fun _ _ _ _ _ _ _ _ h _ => h.elim, fun _ _ _ _ _ _ _ _ h _ => h.elim, fun _ _ _ _ _ _ _ _ h _ => h.elim⟩
  | succ n ih =>
    refine ⟨?_, ?_, ?_⟩
    · intro f g a0 x1 x2 x3 x4 s0 hT hQ
      rw [vX9_orders, if_pos (show (0 : Nat) = 0 from rfl)] at hT
      rw [wX9_orders, if_pos (show (0 : Nat) = 0 from rfl)] at hQ
      unfold bX9_orders_27 at hQ
      unfold eX9_orders_27 at hT
      obtain ⟨b3, b5, hT⟩ := hT
      exact sX9_orders_27 (M := (g_wm M f g)) (Mo.sl Sl.wm s0) (Nat.zero_le _) (Nat.zero_le _) b3 (fun c1 => by simp only [if_pos c1] at hQ hT; exact Sl.g (Sl.tr Sl.wm (Sm.l (Sm.wi (Sm.wi (Sm.wi (Sm.tr Sm.rf jX9_lays)))))) (ih.2.1 _ _ _ _ _ _ _ (s0) hT hQ)) b5 (fun c1 => by simp only [if_neg c1] at hQ hT; exact Sl.g (Sl.tr Sl.wm (Sm.l (Sm.wi Sm.rf))) (ih.1 _ _ _ _ _ _ _ (s0) hT hQ))
    · intro f g a0 x1 x2 x3 x4 s0 hT hQ
      rw [vX9_orders, if_neg (show ¬ (1 : Nat) = 0 by decide), if_pos (show (1 : Nat) = 1 from rfl)] at hT
      rw [wX9_orders, if_neg (show ¬ (1 : Nat) = 0 by decide), if_pos (show (1 : Nat) = 1 from rfl)] at hQ
      unfold bX9_orders_96 at hQ
      unfold eX9_orders_96 at hT
      obtain ⟨b4, b5, hT⟩ := hT
      exact sX9_orders_96 (M := (g_wm M f g)) (Mo.sl Sl.wm s0) (Nat.zero_le _) (Nat.zero_le _) (fun c1 => by simp only [if_pos c1] at hQ; exact Sl.q (Sl.tr Sl.wm (Sm.l (Sm.tr Sm.rf jX9_good0))) hQ) b4 b5 (fun c1 c2 => by simp only [if_neg c1, if_pos c2] at hQ hT; exact Sl.g (Sl.tr Sl.wm (Sl.tr (Sl.tr Sl.rf jX9_runs) (Sm.l jX9_takesBack))) (ih.2.2 _ _ _ _ _ _ _ (s0) hT hQ)) (fun c1 c2 => by simp only [if_neg c1, if_neg c2] at hQ hT; exact Sl.g (Sl.tr Sl.wm (Sl.tr Sl.rf jX9_runs)) (ih.2.1 _ _ _ _ _ _ _ (s0) hT hQ))
    · intro f g a0 x1 x2 x3 x4 s0 hT hQ
      rw [vX9_orders, if_neg (show ¬ (2 : Nat) = 0 by decide), if_neg (show ¬ (2 : Nat) = 1 by decide)] at hT
      rw [wX9_orders, if_neg (show ¬ (2 : Nat) = 0 by decide), if_neg (show ¬ (2 : Nat) = 1 by decide)] at hQ
      unfold bX9_orders_123 at hQ
      unfold eX9_orders_123 at hT
      obtain ⟨b3, b5, hT⟩ := hT
      exact sX9_orders_123 (M := (g_wm M f g)) (Mo.sl Sl.wm s0) (Nat.zero_le _) (Nat.zero_le _) b3 (fun c1 => by simp only [if_pos c1] at hQ; exact Sl.q (Sl.tr Sl.wm (Sm.l (Sm.tr (Sm.wi (Sm.wi Sm.rf)) jX9_refuses))) hQ) b5 (fun c1 => by simp only [if_neg c1] at hQ hT; exact Sl.g (Sl.tr Sl.wm (Sm.l (Sm.wi Sm.rf))) (ih.2.2 _ _ _ _ _ _ _ (s0) hT hQ))
def fX9_orders (N : Nat) (K : Nat) (M : gM) (a0 : Nat) : Int32 := (bX9_orders_0 N K M a0 (wX9_orders N K M N)).1
def mX9_orders (N : Nat) (K : Nat) (M : gM) (a0 : Nat) : gM := g_wm M (bX9_orders_0 N K M a0 (wX9_orders N K M N)).2.1 (bX9_orders_0 N K M a0 (wX9_orders N K M N)).2.2
theorem jX9_orders {N : Nat} {K : Nat} {M : gM} {a0 : Nat} : Sl M (mX9_orders N K M a0) := Sl.wm
def EX9_orders (N : Nat) (K : Nat) (M : gM) (a0 : Nat) : Prop := eX9_orders_0 N K M a0 (vX9_orders N K M N)
theorem tX9_orders {N : Nat} {K : Nat} {X : gX} {d mc ms : Nat} {Q : Option Value → gM → Prop} {M : gM} {a0 : Nat} (s0 : Mo M a0) (hE : EX9_orders N K M a0) (hQ : Q (some (.int (fX9_orders N K M a0))) (mX9_orders N K M a0)) : Cn X (d + K + 14) mc ms kX9_orders [.ref a0] M Q := by
  unfold fX9_orders mX9_orders at hQ
  unfold bX9_orders_0 at hQ
  unfold EX9_orders eX9_orders_0 at hE
  obtain ⟨b1, b2, b4, hT⟩ := hE
  have ih := lpX9_orders (X := X) (d := d) (mc := mc) (ms := ms) (Q := Q) N K M N
  exact sX9_orders_0 s0 b1 b2 (fun c1 => by simp only [if_neg c1] at hQ hT; exact Sl.g (Sm.l (Sm.tr (Sm.tr (Sm.wi Sm.rf) jX9_readsAs) jX9_laysAside)) (ih.1 _ _ _ _ _ _ _ (s0) hT hQ)) b4 (fun c1 => by simp only [if_pos c1] at hQ; exact Sl.q (Sm.l (Sm.tr (Sm.tr (Sm.wi Sm.rf) jX9_readsAs) jX9_refuses)) hQ)
