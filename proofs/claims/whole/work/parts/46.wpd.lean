/-! X9_placeBy -/
def pX9_placeBy (N K : Nat) (M : gM) (a0 : Nat) (x1 : Int32) (R : Int32 → Prop) : Prop := ((¬ (g_mi M (a0 + 2) 36) = 0 → pX9_together N K M a0 x1 127 (fun v1 => (¬ ((g_mi M (a0 + 2) 36) : Int32) = 0) ∧ R (i_rm v1 (g_mi M (a0 + 2) 36)))) ∧ ((g_mi M (a0 + 2) 36) = 0 → R 0))
set_option maxRecDepth 10000 in
theorem uX9_placeBy {N K : Nat} {X : gX} {d mc ms : Nat} {Q : Option Value → gM → Prop} {M : gM} {a0 : Nat} {x1 : Int32} {R : Int32 → Prop} (s0 : Mo M a0) (H : pX9_placeBy N K M a0 x1 R) (hR : ∀ (v : Int32), R v → Q (some (.int v)) M) : Cn X (d + 2) mc ms kX9_placeBy [.ref a0, .int (x1)] M Q := by
  unfold pX9_placeBy at H
  refine g_meth rfl rfl (Nat.le_of_ble_eq_true rfl) rfl ?_
  refine g_aload_n 0 1 dX9_placeBy_0 rfl rfl ?_
  refine g_getR 4 (a0 + 2) dX9_placeBy_1 rfl flX9_28 s0.1 s0.2.2.2.1 ?_
  refine g_bipush (36) 6 dX9_placeBy_4 rfl rfl ?_
  refine h_iaload 7 36 dX9_placeBy_6 rfl rfl s0.2.2.2.2.1 (vp_lit rfl) ?_
  refine g_istore_n 8 [(2, .int ((g_mi M (a0 + 2) 36))), (0, .ref a0), (1, .int (x1))] dX9_placeBy_7 rfl (Nat.le_of_ble_eq_true rfl) rfl ?_
  refine g_iload_n 0 9 dX9_placeBy_8 rfl rfl ?_
  refine g_if_ne 14 12 dX9_placeBy_9 rfl rfl (fun c1 => ?_) (fun c1 => ?_)
  · skip
    replace H := H.1 c1
    refine g_aload_n 1 15 dX9_placeBy_14 rfl rfl ?_
    refine g_iload_n 2 16 dX9_placeBy_15 rfl rfl ?_
    refine g_bipush (127) 18 dX9_placeBy_16 rfl rfl ?_
    refine g_callV (mc1 := 0) (ms1 := 0) (b := a0) (rest := []) (av := [.int (x1), .int (127)]) kX9_together 21 dX9_placeBy_18 rfl rfl mbX9_350 imX9_together seX9_together gcl9.1 s0.1 (Nat.le_of_ble_eq_true rfl) (Nat.zero_le _) (Nat.zero_le _) (uX9_together (N := N) (K := K) s0 H (fun v1 H => ?_))
    show Go X (d + 2) mc ms kX9_placeBy Q 21 [(2, .int ((g_mi M (a0 + 2) 36))), (0, .ref a0), (1, .int (x1))] [.int (v1)] M 0 0
    refine g_iload_n 0 22 dX9_placeBy_21 rfl rfl ?_
    obtain ⟨b1, H⟩ := H
    refine h_irem 23 dX9_placeBy_22 rfl b1 ?_
    exact g_iret dX9_placeBy_23 rfl (Nat.zero_le _) (Nat.zero_le _) (hR _ H)
  · skip
    replace H := H.2 c1
    refine g_iconst (0) 13 dX9_placeBy_12 rfl rfl ?_
    exact g_iret dX9_placeBy_13 rfl (Nat.zero_le _) (Nat.zero_le _) (hR _ H)
/-! X9_signedBelow -/
def pX9_signedBelow_0 (N K : Nat) (kp : Nat → gM → Nat → Int32 → Int32 → Int32 → Prop) (R : Int32 → Prop) (M : gM) (a0 : Nat) (x1 : Int32) : Prop := kp 0 M a0 x1 0 0
def pX9_signedBelow_4 (N K : Nat) (kp : Nat → gM → Nat → Int32 → Int32 → Int32 → Prop) (R : Int32 → Prop) (M : gM) (a0 : Nat) (x1 : Int32) (x2 : Int32) (x3 : Int32) : Prop := ((x1 ≤ x3 → R x2) ∧ (¬ x1 ≤ x3 → (vp_in ((67 + x3)) 5812) ∧ ((¬ (g_mi M (a0 + 2) ((67 + x3)).toNatClampNeg) = 3 → kp 0 M a0 x1 (x2 + 1) (x3 + 1)) ∧ ((g_mi M (a0 + 2) ((67 + x3)).toNatClampNeg) = 3 → kp 0 M a0 x1 (x2 + 0) (x3 + 1)))))
def qX9_signedBelow (N K : Nat) (R : Int32 → Prop) : Nat → Nat → gM → Nat → Int32 → Int32 → Int32 → Prop
  | 0, _, _, _, _, _, _ => False
  | n + 1, _, M, a0, x1, x2, x3 => pX9_signedBelow_4 N K (qX9_signedBelow N K R n) R M a0 x1 x2 x3
def pX9_signedBelow (N K : Nat) (M : gM) (a0 : Nat) (x1 : Int32) (R : Int32 → Prop) : Prop := pX9_signedBelow_0 N K (qX9_signedBelow N K R N) R M a0 x1
def ULX9_signedBelow (X : gX) (d mc ms : Nat) (Q : Option Value → gM → Prop) (N K : Nat) (R : Int32 → Prop) (n : Nat) : Prop := (∀ (M : gM) (a0 : Nat) (x1 : Int32) (x2 : Int32) (x3 : Int32), Mo M a0 → qX9_signedBelow N K R n 0 M a0 x1 x2 x3 → (∀ (v : Int32), R v → Q (some (.int v)) M) → Go X d mc ms kX9_signedBelow Q 4 [(0, .ref a0), (1, .int (x1)), (2, .int (x2)), (3, .int (x3))] [] M 0 0)
set_option maxRecDepth 10000 in
theorem ulX9_signedBelow {X : gX} {d mc ms : Nat} {Q : Option Value → gM → Prop} {N K : Nat} {R : Int32 → Prop} : ∀ n : Nat, ULX9_signedBelow X d mc ms Q N K R n := by
  intro n
  induction n with
  | zero => exact fun _ _ _ _ _ _ h _ => h.elim
  | succ n ih =>
    intro M a0 x1 x2 x3 s0 H hR
    rw [qX9_signedBelow] at H
    unfold pX9_signedBelow_4 at H
    refine g_iload_n 3 5 dX9_signedBelow_4 rfl rfl ?_
    refine g_iload_n 1 6 dX9_signedBelow_5 rfl rfl ?_
    refine g_icmp_ge 36 9 dX9_signedBelow_6 rfl rfl (fun c1 => ?_) (fun c1 => ?_)
    · skip
      replace H := H.1 c1
      refine g_iload_n 2 37 dX9_signedBelow_36 rfl rfl ?_
      exact g_iret dX9_signedBelow_37 rfl (Nat.zero_le _) (Nat.zero_le _) (hR _ H)
    · skip
      replace H := H.2 c1
      refine g_iload_n 2 10 dX9_signedBelow_9 rfl rfl ?_
      refine g_aload_n 0 11 dX9_signedBelow_10 rfl rfl ?_
      refine g_getR 14 (a0 + 2) dX9_signedBelow_11 rfl flX9_28 s0.1 s0.2.2.2.1 ?_
      refine g_bipush (67) 16 dX9_signedBelow_14 rfl rfl ?_
      refine g_iload_n 3 17 dX9_signedBelow_16 rfl rfl ?_
      refine g_iadd 18 dX9_signedBelow_17 rfl ?_
      obtain ⟨b1, H⟩ := H
      refine h_iaload 19 ((67 + x3)).toNatClampNeg dX9_signedBelow_18 rfl rfl s0.2.2.2.2.1 b1 ?_
      refine g_iconst (3) 20 dX9_signedBelow_19 rfl rfl ?_
      refine g_icmp_ne 27 23 dX9_signedBelow_20 rfl rfl (fun c2 => ?_) (fun c2 => ?_)
      · skip
        replace H := H.1 c2
        refine g_iconst (1) 28 dX9_signedBelow_27 rfl rfl ?_
        refine g_iadd 29 dX9_signedBelow_28 rfl ?_
        refine g_istore_n 30 [(2, .int ((x2 + 1))), (0, .ref a0), (1, .int (x1)), (3, .int (x3))] dX9_signedBelow_29 rfl (Nat.le_of_ble_eq_true rfl) rfl ?_
        refine g_iinc _ 3 33 [(3, .int ((x3 + 1))), (2, .int ((x2 + 1))), (0, .ref a0), (1, .int (x1))] dX9_signedBelow_30 rfl rfl rfl (Nat.le_of_ble_eq_true rfl) rfl ?_
        refine g_goto 4 dX9_signedBelow_33 rfl ?_
        exact g_sub [2, 3, 1, 0] _ rfl (ih M a0 x1 (x2 + 1) (x3 + 1) s0 H (fun v r => hR v r))
      · skip
        replace H := H.2 c2
        refine g_iconst (0) 24 dX9_signedBelow_23 rfl rfl ?_
        refine g_goto 28 dX9_signedBelow_24 rfl ?_
        refine g_iadd 29 dX9_signedBelow_28 rfl ?_
        refine g_istore_n 30 [(2, .int ((x2 + 0))), (0, .ref a0), (1, .int (x1)), (3, .int (x3))] dX9_signedBelow_29 rfl (Nat.le_of_ble_eq_true rfl) rfl ?_
        refine g_iinc _ 3 33 [(3, .int ((x3 + 1))), (2, .int ((x2 + 0))), (0, .ref a0), (1, .int (x1))] dX9_signedBelow_30 rfl rfl rfl (Nat.le_of_ble_eq_true rfl) rfl ?_
        refine g_goto 4 dX9_signedBelow_33 rfl ?_
        exact g_sub [2, 3, 1, 0] _ rfl (ih M a0 x1 (x2 + 0) (x3 + 1) s0 H (fun v r => hR v r))
set_option maxRecDepth 10000 in
theorem uX9_signedBelow {N K : Nat} {X : gX} {d mc ms : Nat} {Q : Option Value → gM → Prop} {M : gM} {a0 : Nat} {x1 : Int32} {R : Int32 → Prop} (s0 : Mo M a0) (H : pX9_signedBelow N K M a0 x1 R) (hR : ∀ (v : Int32), R v → Q (some (.int v)) M) : Cn X d mc ms kX9_signedBelow [.ref a0, .int (x1)] M Q := by
  have ih := ulX9_signedBelow (X := X) (d := d) (mc := mc) (ms := ms) (Q := Q) (N := N) (K := K) (R := R) N
  unfold pX9_signedBelow pX9_signedBelow_0 at H
  refine g_meth rfl rfl (Nat.le_of_ble_eq_true rfl) rfl ?_
  refine g_iconst (0) 1 dX9_signedBelow_0 rfl rfl ?_
  refine g_istore_n 2 [(2, .int (0)), (0, .ref a0), (1, .int (x1))] dX9_signedBelow_1 rfl (Nat.le_of_ble_eq_true rfl) rfl ?_
  refine g_iconst (0) 3 dX9_signedBelow_2 rfl rfl ?_
  refine g_istore_n 4 [(3, .int (0)), (2, .int (0)), (0, .ref a0), (1, .int (x1))] dX9_signedBelow_3 rfl (Nat.le_of_ble_eq_true rfl) rfl ?_
  exact g_sub [2, 3, 1, 0] _ rfl (ih M a0 x1 0 0 s0 H (fun v r => hR v r))
/-! X9_found -/
def pX9_found (N K : Nat) (M : gM) (a0 : Nat) (x1 : Int32) (x2 : Int32) (R : Int32 → Prop) : Prop := (((g_mi M (a0 + 2) 33) = 0 → R (-1)) ∧ (¬ (g_mi M (a0 + 2) 33) = 0 → (EX9_isKey M x1) ∧ ∀ v1 : Int32, v1 = (fX9_isKey x1) → ((¬ v1 = 0 → ((x2 = 0 → pX9_ownOf N K M a0 x1 (fun v2 => R v2)) ∧ (¬ x2 = 0 → ((x2 = 1 → pX9_ownOf N K M a0 x1 (fun v3 => pX9_signedBelow N K M a0 v3 (fun v4 => R v4))) ∧ (¬ x2 = 1 → ((x2 = 2 → pX9_placeBy N K M a0 x1 (fun v5 => R v5)) ∧ (¬ x2 = 2 → R (-1)))))))) ∧ (v1 = 0 → R (-1)))))
set_option maxRecDepth 10000 in
theorem uX9_found {N K : Nat} {X : gX} {d mc ms : Nat} {Q : Option Value → gM → Prop} {M : gM} {a0 : Nat} {x1 : Int32} {x2 : Int32} {R : Int32 → Prop} (s0 : Mo M a0) (H : pX9_found N K M a0 x1 x2 R) (hR : ∀ (v : Int32), R v → Q (some (.int v)) M) : Cn X (d + 3) mc ms kX9_found [.ref a0, .int (x1), .int (x2)] M Q := by
  unfold pX9_found at H
  refine g_meth rfl rfl (Nat.le_of_ble_eq_true rfl) rfl ?_
  refine g_aload_n 0 1 dX9_found_0 rfl rfl ?_
  refine g_getR 4 (a0 + 2) dX9_found_1 rfl flX9_28 s0.1 s0.2.2.2.1 ?_
  refine g_bipush (33) 6 dX9_found_4 rfl rfl ?_
  refine h_iaload 7 33 dX9_found_6 rfl rfl s0.2.2.2.2.1 (vp_lit rfl) ?_
  refine g_if_eq 17 10 dX9_found_7 rfl rfl (fun c1 => ?_) (fun c1 => ?_)
  · skip
    replace H := H.1 c1
    refine g_iconst ((-1)) 18 dX9_found_17 rfl rfl ?_
    exact g_iret dX9_found_18 rfl (Nat.zero_le _) (Nat.zero_le _) (hR _ H)
  · skip
    replace H := H.2 c1
    refine g_iload_n 1 11 dX9_found_10 rfl rfl ?_
    obtain ⟨b1, H⟩ := H
    refine g_callS (mc1 := 0) (ms1 := 0) (rest := []) (av := [.int (x1)]) kX9_isKey 14 dX9_found_11 rfl rfl mbX9_127 smX9_isKey (Nat.le_of_ble_eq_true rfl) (Nat.zero_le _) (Nat.zero_le _) (tX9_isKey b1 ?_)
    show Go X (d + 3) mc ms kX9_found Q 14 [(0, .ref a0), (1, .int (x1)), (2, .int (x2))] [.int ((fX9_isKey x1))] M 0 0
    generalize hv1 : (fX9_isKey x1) = v1
    replace H := H v1 hv1.symm
    refine g_if_ne 19 17 dX9_found_14 rfl rfl (fun c2 => ?_) (fun c2 => ?_)
    · skip
      replace H := H.1 c2
      refine g_iload_n 2 20 dX9_found_19 rfl rfl ?_
      by_cases c3 : x2 = 0
      · refine h_tabIn (0) 48 dX9_found_20 c3 (by decide) (by decide) rfl rfl ?_
        replace H := H.1 c3
        refine g_aload_n 0 49 dX9_found_48 rfl rfl ?_
        refine g_iload_n 1 50 dX9_found_49 rfl rfl ?_
        refine g_callV (mc1 := 0) (ms1 := 0) (b := a0) (rest := []) (av := [.int (x1)]) kX9_ownOf 53 dX9_found_50 rfl rfl mbX9_404 imX9_ownOf seX9_ownOf gcl9.1 s0.1 (Nat.le_of_ble_eq_true rfl) (Nat.zero_le _) (Nat.zero_le _) (uX9_ownOf (N := N) (K := K) s0 H (fun v2 H => ?_))
        show Go X (d + 3) mc ms kX9_found Q 53 [(0, .ref a0), (1, .int (x1)), (2, .int (x2))] [.int (v2)] M 0 0
        exact g_iret dX9_found_53 rfl (Nat.zero_le _) (Nat.zero_le _) (hR _ H)
      replace H := H.2 c3
      by_cases c4 : x2 = 1
      · refine h_tabIn (1) 54 dX9_found_20 c4 (by decide) (by decide) rfl rfl ?_
        replace H := H.1 c4
        refine g_aload_n 0 55 dX9_found_54 rfl rfl ?_
        refine g_aload_n 0 56 dX9_found_55 rfl rfl ?_
        refine g_iload_n 1 57 dX9_found_56 rfl rfl ?_
        refine g_callV (mc1 := 0) (ms1 := 0) (b := a0) (rest := [.ref a0]) (av := [.int (x1)]) kX9_ownOf 60 dX9_found_57 rfl rfl mbX9_404 imX9_ownOf seX9_ownOf gcl9.1 s0.1 (Nat.le_of_ble_eq_true rfl) (Nat.zero_le _) (Nat.zero_le _) (uX9_ownOf (N := N) (K := K) s0 H (fun v3 H => ?_))
        show Go X (d + 3) mc ms kX9_found Q 60 [(0, .ref a0), (1, .int (x1)), (2, .int (x2))] [.int (v3), .ref a0] M 0 0
        refine g_callV (mc1 := 0) (ms1 := 0) (b := a0) (rest := []) (av := [.int (v3)]) kX9_signedBelow 63 dX9_found_60 rfl rfl mbX9_407 imX9_signedBelow seX9_signedBelow gcl9.1 s0.1 (Nat.le_of_ble_eq_true rfl) (Nat.zero_le _) (Nat.zero_le _) (uX9_signedBelow (N := N) (K := K) s0 H (fun v4 H => ?_))
        show Go X (d + 3) mc ms kX9_found Q 63 [(0, .ref a0), (1, .int (x1)), (2, .int (x2))] [.int (v4)] M 0 0
        exact g_iret dX9_found_63 rfl (Nat.zero_le _) (Nat.zero_le _) (hR _ H)
      replace H := H.2 c4
      by_cases c5 : x2 = 2
      · refine h_tabIn (2) 64 dX9_found_20 c5 (by decide) (by decide) rfl rfl ?_
        replace H := H.1 c5
        refine g_aload_n 0 65 dX9_found_64 rfl rfl ?_
        refine g_iload_n 1 66 dX9_found_65 rfl rfl ?_
        refine g_callV (mc1 := 0) (ms1 := 0) (b := a0) (rest := []) (av := [.int (x1)]) kX9_placeBy 69 dX9_found_66 rfl rfl mbX9_410 imX9_placeBy seX9_placeBy gcl9.1 s0.1 (Nat.le_of_ble_eq_true rfl) (Nat.zero_le _) (Nat.zero_le _) (uX9_placeBy (N := N) (K := K) s0 H (fun v5 H => ?_))
        show Go X (d + 3) mc ms kX9_found Q 69 [(0, .ref a0), (1, .int (x1)), (2, .int (x2))] [.int (v5)] M 0 0
        exact g_iret dX9_found_69 rfl (Nat.zero_le _) (Nat.zero_le _) (hR _ H)
      replace H := H.2 c5
      have tc3 := i_neT c3
      rw [show ((0 : Int32)).toInt = 0 from rfl] at tc3
      have tc4 := i_neT c4
      rw [show ((1 : Int32)).toInt = 1 from rfl] at tc4
      have tc5 := i_neT c5
      rw [show ((2 : Int32)).toInt = 2 from rfl] at tc5
      refine g_tableOut 70 dX9_found_20 (by omega) rfl ?_
      refine g_iconst ((-1)) 71 dX9_found_70 rfl rfl ?_
      exact g_iret dX9_found_71 rfl (Nat.zero_le _) (Nat.zero_le _) (hR _ H)
    · skip
      replace H := H.2 c2
      refine g_iconst ((-1)) 18 dX9_found_17 rfl rfl ?_
      exact g_iret dX9_found_18 rfl (Nat.zero_le _) (Nat.zero_le _) (hR _ H)
/-! X9_packed -/
def pX9_packed_0 (N K : Nat) (kp : Nat → gM → Nat → Int32 → Int32 → Int32 → Prop) (R : Int32 → Prop) (M : gM) (a0 : Nat) (x1 : Int32) : Prop := kp 0 M a0 x1 0 ((4 * x1) + 3)
def pX9_packed_8 (N K : Nat) (kp : Nat → gM → Nat → Int32 → Int32 → Int32 → Prop) (R : Int32 → Prop) (M : gM) (a0 : Nat) (x1 : Int32) (x2 : Int32) (x3 : Int32) : Prop := ((x3 < (4 * x1) → R x2) ∧ (¬ x3 < (4 * x1) → (((3 * (g_mi M (a0 + 2) 34)) ≤ x3 → kp 0 M a0 x1 ((4 * x2) + 3) (x3 + (-1))) ∧ (¬ (3 * (g_mi M (a0 + 2) 34)) ≤ x3 → (vp_in ((67 + x3)) 5812) ∧ kp 0 M a0 x1 ((4 * x2) + (g_mi M (a0 + 2) ((67 + x3)).toNatClampNeg)) (x3 + (-1))))))
def qX9_packed (N K : Nat) (R : Int32 → Prop) : Nat → Nat → gM → Nat → Int32 → Int32 → Int32 → Prop
  | 0, _, _, _, _, _, _ => False
  | n + 1, _, M, a0, x1, x2, x3 => pX9_packed_8 N K (qX9_packed N K R n) R M a0 x1 x2 x3
def pX9_packed (N K : Nat) (M : gM) (a0 : Nat) (x1 : Int32) (R : Int32 → Prop) : Prop := pX9_packed_0 N K (qX9_packed N K R N) R M a0 x1
def ULX9_packed (X : gX) (d mc ms : Nat) (Q : Option Value → gM → Prop) (N K : Nat) (R : Int32 → Prop) (n : Nat) : Prop := (∀ (M : gM) (a0 : Nat) (x1 : Int32) (x2 : Int32) (x3 : Int32), Mo M a0 → qX9_packed N K R n 0 M a0 x1 x2 x3 → (∀ (v : Int32), R v → Q (some (.int v)) M) → Go X d mc ms kX9_packed Q 8 [(0, .ref a0), (1, .int (x1)), (2, .int (x2)), (3, .int (x3))] [] M 0 0)
set_option maxRecDepth 10000 in
theorem ulX9_packed {X : gX} {d mc ms : Nat} {Q : Option Value → gM → Prop} {N K : Nat} {R : Int32 → Prop} : ∀ n : Nat, ULX9_packed X d mc ms Q N K R n := by
  intro n
  induction n with
  | zero => exact fun _ _ _ _ _ _ h _ => h.elim
  | succ n ih =>
    intro M a0 x1 x2 x3 s0 H hR
    rw [qX9_packed] at H
    unfold pX9_packed_8 at H
    refine g_iload_n 3 9 dX9_packed_8 rfl rfl ?_
    refine g_iconst (4) 10 dX9_packed_9 rfl rfl ?_
    refine g_iload_n 1 11 dX9_packed_10 rfl rfl ?_
    refine g_imul 12 dX9_packed_11 rfl ?_
    refine g_icmp_lt 52 15 dX9_packed_12 rfl rfl (fun c1 => ?_) (fun c1 => ?_)
    · skip
      replace H := H.1 c1
      refine g_iload_n 2 53 dX9_packed_52 rfl rfl ?_
      exact g_iret dX9_packed_53 rfl (Nat.zero_le _) (Nat.zero_le _) (hR _ H)
    · skip
      replace H := H.2 c1
      refine g_iconst (4) 16 dX9_packed_15 rfl rfl ?_
      refine g_iload_n 2 17 dX9_packed_16 rfl rfl ?_
      refine g_imul 18 dX9_packed_17 rfl ?_
      refine g_iload_n 3 19 dX9_packed_18 rfl rfl ?_
      refine g_iconst (3) 20 dX9_packed_19 rfl rfl ?_
      refine g_aload_n 0 21 dX9_packed_20 rfl rfl ?_
      refine g_getR 24 (a0 + 2) dX9_packed_21 rfl flX9_28 s0.1 s0.2.2.2.1 ?_
      refine g_bipush (34) 26 dX9_packed_24 rfl rfl ?_
      refine h_iaload 27 34 dX9_packed_26 rfl rfl s0.2.2.2.2.1 (vp_lit rfl) ?_
      refine g_imul 28 dX9_packed_27 rfl ?_
      refine g_icmp_ge 43 31 dX9_packed_28 rfl rfl (fun c2 => ?_) (fun c2 => ?_)
      · skip
        replace H := H.1 c2
        refine g_iconst (3) 44 dX9_packed_43 rfl rfl ?_
        refine g_iadd 45 dX9_packed_44 rfl ?_
        refine g_istore_n 46 [(2, .int (((4 * x2) + 3))), (0, .ref a0), (1, .int (x1)), (3, .int (x3))] dX9_packed_45 rfl (Nat.le_of_ble_eq_true rfl) rfl ?_
        refine g_iinc _ 3 49 [(3, .int ((x3 + (-1)))), (2, .int (((4 * x2) + 3))), (0, .ref a0), (1, .int (x1))] dX9_packed_46 rfl rfl rfl (Nat.le_of_ble_eq_true rfl) rfl ?_
        refine g_goto 8 dX9_packed_49 rfl ?_
        exact g_sub [2, 3, 1, 0] _ rfl (ih M a0 x1 ((4 * x2) + 3) (x3 + (-1)) s0 H (fun v r => hR v r))
      · skip
        replace H := H.2 c2
        refine g_aload_n 0 32 dX9_packed_31 rfl rfl ?_
        refine g_getR 35 (a0 + 2) dX9_packed_32 rfl flX9_28 s0.1 s0.2.2.2.1 ?_
        refine g_bipush (67) 37 dX9_packed_35 rfl rfl ?_
        refine g_iload_n 3 38 dX9_packed_37 rfl rfl ?_
        refine g_iadd 39 dX9_packed_38 rfl ?_
        obtain ⟨b1, H⟩ := H
        refine h_iaload 40 ((67 + x3)).toNatClampNeg dX9_packed_39 rfl rfl s0.2.2.2.2.1 b1 ?_
        refine g_goto 44 dX9_packed_40 rfl ?_
        refine g_iadd 45 dX9_packed_44 rfl ?_
        refine g_istore_n 46 [(2, .int (((4 * x2) + (g_mi M (a0 + 2) ((67 + x3)).toNatClampNeg)))), (0, .ref a0), (1, .int (x1)), (3, .int (x3))] dX9_packed_45 rfl (Nat.le_of_ble_eq_true rfl) rfl ?_
        refine g_iinc _ 3 49 [(3, .int ((x3 + (-1)))), (2, .int (((4 * x2) + (g_mi M (a0 + 2) ((67 + x3)).toNatClampNeg)))), (0, .ref a0), (1, .int (x1))] dX9_packed_46 rfl rfl rfl (Nat.le_of_ble_eq_true rfl) rfl ?_
        refine g_goto 8 dX9_packed_49 rfl ?_
        exact g_sub [2, 3, 1, 0] _ rfl (ih M a0 x1 ((4 * x2) + (g_mi M (a0 + 2) ((67 + x3)).toNatClampNeg)) (x3 + (-1)) s0 H (fun v r => hR v r))
set_option maxRecDepth 10000 in
theorem uX9_packed {N K : Nat} {X : gX} {d mc ms : Nat} {Q : Option Value → gM → Prop} {M : gM} {a0 : Nat} {x1 : Int32} {R : Int32 → Prop} (s0 : Mo M a0) (H : pX9_packed N K M a0 x1 R) (hR : ∀ (v : Int32), R v → Q (some (.int v)) M) : Cn X d mc ms kX9_packed [.ref a0, .int (x1)] M Q := by
  have ih := ulX9_packed (X := X) (d := d) (mc := mc) (ms := ms) (Q := Q) (N := N) (K := K) (R := R) N
  unfold pX9_packed pX9_packed_0 at H
  refine g_meth rfl rfl (Nat.le_of_ble_eq_true rfl) rfl ?_
  refine g_iconst (0) 1 dX9_packed_0 rfl rfl ?_
  refine g_istore_n 2 [(2, .int (0)), (0, .ref a0), (1, .int (x1))] dX9_packed_1 rfl (Nat.le_of_ble_eq_true rfl) rfl ?_
  refine g_iconst (4) 3 dX9_packed_2 rfl rfl ?_
  refine g_iload_n 2 4 dX9_packed_3 rfl rfl ?_
  refine g_imul 5 dX9_packed_4 rfl ?_
  refine g_iconst (3) 6 dX9_packed_5 rfl rfl ?_
  refine g_iadd 7 dX9_packed_6 rfl ?_
  refine g_istore_n 8 [(3, .int (((4 * x1) + 3))), (2, .int (0)), (0, .ref a0), (1, .int (x1))] dX9_packed_7 rfl (Nat.le_of_ble_eq_true rfl) rfl ?_
  exact g_sub [2, 3, 1, 0] _ rfl (ih M a0 x1 0 ((4 * x1) + 3) s0 H (fun v r => hR v r))
/-! X9_signOrByte -/
def pX9_signOrByte (N K : Nat) (M : gM) (a0 : Nat) (x1 : Int32) (x2 : Int32) (R : Int32 → Prop) : Prop := ∀ v1 : Int32, v1 = (fX9_lies x1 4 (3 + x2)) → ((v1 = 0 → ∀ v2 : Int32, v2 = (fX9_lies x1 64 78) → ((¬ v2 = 0 → ((x2 ≤ (4 * (x1 - 64)) → R (-1)) ∧ (¬ x2 ≤ (4 * (x1 - 64)) → pX9_packed N K M a0 (x1 - 64) (fun v3 => R v3)))) ∧ (v2 = 0 → R (-1)))) ∧ (¬ v1 = 0 → (vp_in (((67 + x1) - 4)) 5812) ∧ R (g_mi M (a0 + 2) (((67 + x1) - 4)).toNatClampNeg)))
set_option maxRecDepth 10000 in
theorem uX9_signOrByte {N K : Nat} {X : gX} {d mc ms : Nat} {Q : Option Value → gM → Prop} {M : gM} {a0 : Nat} {x1 : Int32} {x2 : Int32} {R : Int32 → Prop} (s0 : Mo M a0) (H : pX9_signOrByte N K M a0 x1 x2 R) (hR : ∀ (v : Int32), R v → Q (some (.int v)) M) : Cn X (d + 1) mc ms kX9_signOrByte [.ref a0, .int (x1), .int (x2)] M Q := by
  unfold pX9_signOrByte at H
  refine g_meth rfl rfl (Nat.le_of_ble_eq_true rfl) rfl ?_
  refine g_iload_n 1 1 dX9_signOrByte_0 rfl rfl ?_
  refine g_iconst (4) 2 dX9_signOrByte_1 rfl rfl ?_
  refine g_iconst (3) 3 dX9_signOrByte_2 rfl rfl ?_
  refine g_iload_n 2 4 dX9_signOrByte_3 rfl rfl ?_
  refine g_iadd 5 dX9_signOrByte_4 rfl ?_
  refine g_callS (mc1 := 0) (ms1 := 0) (rest := []) (av := [.int (x1), .int (4), .int ((3 + x2))]) kX9_lies 8 dX9_signOrByte_5 rfl rfl mbX9_18 smX9_lies (Nat.le_of_ble_eq_true rfl) (Nat.zero_le _) (Nat.zero_le _) (tX9_lies  ?_)
  show Go X (d + 1) mc ms kX9_signOrByte Q 8 [(0, .ref a0), (1, .int (x1)), (2, .int (x2))] [.int ((fX9_lies x1 4 (3 + x2)))] M 0 0
  generalize hv1 : (fX9_lies x1 4 (3 + x2)) = v1
  replace H := H v1 hv1.symm
  refine g_if_eq 23 11 dX9_signOrByte_8 rfl rfl (fun c1 => ?_) (fun c1 => ?_)
  · skip
    replace H := H.1 c1
    refine g_iload_n 1 24 dX9_signOrByte_23 rfl rfl ?_
    refine g_bipush (64) 26 dX9_signOrByte_24 rfl rfl ?_
    refine g_bipush (78) 28 dX9_signOrByte_26 rfl rfl ?_
    refine g_callS (mc1 := 0) (ms1 := 0) (rest := []) (av := [.int (x1), .int (64), .int (78)]) kX9_lies 31 dX9_signOrByte_28 rfl rfl mbX9_18 smX9_lies (Nat.le_of_ble_eq_true rfl) (Nat.zero_le _) (Nat.zero_le _) (tX9_lies  ?_)
    show Go X (d + 1) mc ms kX9_signOrByte Q 31 [(0, .ref a0), (1, .int (x1)), (2, .int (x2))] [.int ((fX9_lies x1 64 78))] M 0 0
    generalize hv2 : (fX9_lies x1 64 78) = v2
    replace H := H v2 hv2.symm
    refine g_if_ne 36 34 dX9_signOrByte_31 rfl rfl (fun c2 => ?_) (fun c2 => ?_)
    · skip
      replace H := H.1 c2
      refine g_iload_n 1 37 dX9_signOrByte_36 rfl rfl ?_
      refine g_bipush (64) 39 dX9_signOrByte_37 rfl rfl ?_
      refine g_isub 40 dX9_signOrByte_39 rfl ?_
      refine g_istore_n 41 [(3, .int ((x1 - 64))), (0, .ref a0), (1, .int (x1)), (2, .int (x2))] dX9_signOrByte_40 rfl (Nat.le_of_ble_eq_true rfl) rfl ?_
      refine g_iconst (4) 42 dX9_signOrByte_41 rfl rfl ?_
      refine g_iload_n 0 43 dX9_signOrByte_42 rfl rfl ?_
      refine g_imul 44 dX9_signOrByte_43 rfl ?_
      refine g_iload_n 3 45 dX9_signOrByte_44 rfl rfl ?_
      refine g_icmp_ge 56 48 dX9_signOrByte_45 rfl rfl (fun c3 => ?_) (fun c3 => ?_)
      · skip
        replace H := H.1 c3
        refine g_iconst ((-1)) 57 dX9_signOrByte_56 rfl rfl ?_
        exact g_iret dX9_signOrByte_57 rfl (Nat.zero_le _) (Nat.zero_le _) (hR _ H)
      · skip
        replace H := H.2 c3
        refine g_aload_n 1 49 dX9_signOrByte_48 rfl rfl ?_
        refine g_iload_n 0 50 dX9_signOrByte_49 rfl rfl ?_
        refine g_callV (mc1 := 0) (ms1 := 0) (b := a0) (rest := []) (av := [.int ((x1 - 64))]) kX9_packed 53 dX9_signOrByte_50 rfl rfl mbX9_416 imX9_packed seX9_packed gcl9.1 s0.1 (Nat.le_of_ble_eq_true rfl) (Nat.zero_le _) (Nat.zero_le _) (uX9_packed (N := N) (K := K) s0 H (fun v3 H => ?_))
        show Go X (d + 1) mc ms kX9_signOrByte Q 53 [(3, .int ((x1 - 64))), (0, .ref a0), (1, .int (x1)), (2, .int (x2))] [.int (v3)] M 0 0
        refine g_goto 57 dX9_signOrByte_53 rfl ?_
        exact g_iret dX9_signOrByte_57 rfl (Nat.zero_le _) (Nat.zero_le _) (hR _ H)
    · skip
      replace H := H.2 c2
      refine g_iconst ((-1)) 35 dX9_signOrByte_34 rfl rfl ?_
      exact g_iret dX9_signOrByte_35 rfl (Nat.zero_le _) (Nat.zero_le _) (hR _ H)
  · skip
    replace H := H.2 c1
    refine g_aload_n 0 12 dX9_signOrByte_11 rfl rfl ?_
    refine g_getR 15 (a0 + 2) dX9_signOrByte_12 rfl flX9_28 s0.1 s0.2.2.2.1 ?_
    refine g_bipush (67) 17 dX9_signOrByte_15 rfl rfl ?_
    refine g_iload_n 1 18 dX9_signOrByte_17 rfl rfl ?_
    refine g_iadd 19 dX9_signOrByte_18 rfl ?_
    refine g_iconst (4) 20 dX9_signOrByte_19 rfl rfl ?_
    refine g_isub 21 dX9_signOrByte_20 rfl ?_
    obtain ⟨b1, H⟩ := H
    refine h_iaload 22 (((67 + x1) - 4)).toNatClampNeg dX9_signOrByte_21 rfl rfl s0.2.2.2.2.1 b1 ?_
    exact g_iret dX9_signOrByte_22 rfl (Nat.zero_le _) (Nat.zero_le _) (hR _ H)
/-! X9_wasThere -/
def pX9_wasThere_0 (N K : Nat) (kp : Nat → gM → Nat → Int32 → Int32 → Int32 → Prop) (R : Int32 → Prop) (M : gM) (a0 : Nat) (x1 : Int32) : Prop := kp 0 M a0 x1 0 0
def pX9_wasThere_4 (N K : Nat) (kp : Nat → gM → Nat → Int32 → Int32 → Int32 → Prop) (R : Int32 → Prop) (M : gM) (a0 : Nat) (x1 : Int32) (x2 : Int32) (x3 : Int32) : Prop := (((g_mi M (a0 + 2) 36) ≤ x3 → (x2 = 0 ∨ x2 = 1) ∧ R x2) ∧ (¬ (g_mi M (a0 + 2) 36) ≤ x3 → ((¬ x2 = 0 → kp 0 M a0 x1 1 (x3 + 1)) ∧ (x2 = 0 → (vp_in ((37 + x3)) 5812) ∧ ((¬ (g_mi M (a0 + 2) ((37 + x3)).toNatClampNeg) = x1 → kp 0 M a0 x1 0 (x3 + 1)) ∧ ((g_mi M (a0 + 2) ((37 + x3)).toNatClampNeg) = x1 → kp 0 M a0 x1 1 (x3 + 1)))))))
def qX9_wasThere (N K : Nat) (R : Int32 → Prop) : Nat → Nat → gM → Nat → Int32 → Int32 → Int32 → Prop
  | 0, _, _, _, _, _, _ => False
  | n + 1, _, M, a0, x1, x2, x3 => pX9_wasThere_4 N K (qX9_wasThere N K R n) R M a0 x1 x2 x3
def pX9_wasThere (N K : Nat) (M : gM) (a0 : Nat) (x1 : Int32) (R : Int32 → Prop) : Prop := pX9_wasThere_0 N K (qX9_wasThere N K R N) R M a0 x1
def ULX9_wasThere (X : gX) (d mc ms : Nat) (Q : Option Value → gM → Prop) (N K : Nat) (R : Int32 → Prop) (n : Nat) : Prop := (∀ (M : gM) (a0 : Nat) (x1 : Int32) (x2 : Int32) (x3 : Int32), Mo M a0 → qX9_wasThere N K R n 0 M a0 x1 x2 x3 → (∀ (v : Int32), R v → Q (some (.int v)) M) → Go X d mc ms kX9_wasThere Q 4 [(0, .ref a0), (1, .int (x1)), (2, .int (x2)), (3, .int (x3))] [] M 0 0)
set_option maxRecDepth 10000 in
theorem ulX9_wasThere {X : gX} {d mc ms : Nat} {Q : Option Value → gM → Prop} {N K : Nat} {R : Int32 → Prop} : ∀ n : Nat, ULX9_wasThere X d mc ms Q N K R n := by
  intro n
  induction n with
  | zero => exact fun _ _ _ _ _ _ h _ => h.elim
  | succ n ih =>
    intro M a0 x1 x2 x3 s0 H hR
    rw [qX9_wasThere] at H
    unfold pX9_wasThere_4 at H
    refine g_iload_n 3 5 dX9_wasThere_4 rfl rfl ?_
    refine g_aload_n 0 6 dX9_wasThere_5 rfl rfl ?_
    refine g_getR 9 (a0 + 2) dX9_wasThere_6 rfl flX9_28 s0.1 s0.2.2.2.1 ?_
    refine g_bipush (36) 11 dX9_wasThere_9 rfl rfl ?_
    refine h_iaload 12 36 dX9_wasThere_11 rfl rfl s0.2.2.2.2.1 (vp_lit rfl) ?_
    refine g_icmp_ge 44 15 dX9_wasThere_12 rfl rfl (fun c1 => ?_) (fun c1 => ?_)
    · skip
      replace H := H.1 c1
      refine g_iload_n 2 45 dX9_wasThere_44 rfl rfl ?_
      obtain ⟨b1, H⟩ := H
      exact g_zret dX9_wasThere_45 rfl b1 (Nat.zero_le _) (Nat.zero_le _) (hR _ H)
    · skip
      replace H := H.2 c1
      refine g_iload_n 2 16 dX9_wasThere_15 rfl rfl ?_
      refine g_if_ne 32 19 dX9_wasThere_16 rfl rfl (fun c2 => ?_) (fun c2 => ?_)
      · skip
        replace H := H.1 c2
        refine g_iconst (1) 33 dX9_wasThere_32 rfl rfl ?_
        refine g_goto 37 dX9_wasThere_33 rfl ?_
        refine g_istore_n 38 [(2, .int (1)), (0, .ref a0), (1, .int (x1)), (3, .int (x3))] dX9_wasThere_37 rfl (Nat.le_of_ble_eq_true rfl) rfl ?_
        refine g_iinc _ 3 41 [(3, .int ((x3 + 1))), (2, .int (1)), (0, .ref a0), (1, .int (x1))] dX9_wasThere_38 rfl rfl rfl (Nat.le_of_ble_eq_true rfl) rfl ?_
        refine g_goto 4 dX9_wasThere_41 rfl ?_
        exact g_sub [2, 3, 1, 0] _ rfl (ih M a0 x1 1 (x3 + 1) s0 H (fun v r => hR v r))
      · skip
        replace H := H.2 c2
        refine g_aload_n 0 20 dX9_wasThere_19 rfl rfl ?_
        refine g_getR 23 (a0 + 2) dX9_wasThere_20 rfl flX9_28 s0.1 s0.2.2.2.1 ?_
        refine g_bipush (37) 25 dX9_wasThere_23 rfl rfl ?_
        refine g_iload_n 3 26 dX9_wasThere_25 rfl rfl ?_
        refine g_iadd 27 dX9_wasThere_26 rfl ?_
        obtain ⟨b2, H⟩ := H
        refine h_iaload 28 ((37 + x3)).toNatClampNeg dX9_wasThere_27 rfl rfl s0.2.2.2.2.1 b2 ?_
        refine g_iload_n 1 29 dX9_wasThere_28 rfl rfl ?_
        refine g_icmp_ne 36 32 dX9_wasThere_29 rfl rfl (fun c3 => ?_) (fun c3 => ?_)
        · skip
          replace H := H.1 c3
          refine g_iconst (0) 37 dX9_wasThere_36 rfl rfl ?_
          refine g_istore_n 38 [(2, .int (0)), (0, .ref a0), (1, .int (x1)), (3, .int (x3))] dX9_wasThere_37 rfl (Nat.le_of_ble_eq_true rfl) rfl ?_
          refine g_iinc _ 3 41 [(3, .int ((x3 + 1))), (2, .int (0)), (0, .ref a0), (1, .int (x1))] dX9_wasThere_38 rfl rfl rfl (Nat.le_of_ble_eq_true rfl) rfl ?_
          refine g_goto 4 dX9_wasThere_41 rfl ?_
          exact g_sub [2, 3, 1, 0] _ rfl (ih M a0 x1 0 (x3 + 1) s0 H (fun v r => hR v r))
        · skip
          replace H := H.2 c3
          refine g_iconst (1) 33 dX9_wasThere_32 rfl rfl ?_
          refine g_goto 37 dX9_wasThere_33 rfl ?_
          refine g_istore_n 38 [(2, .int (1)), (0, .ref a0), (1, .int (x1)), (3, .int (x3))] dX9_wasThere_37 rfl (Nat.le_of_ble_eq_true rfl) rfl ?_
          refine g_iinc _ 3 41 [(3, .int ((x3 + 1))), (2, .int (1)), (0, .ref a0), (1, .int (x1))] dX9_wasThere_38 rfl rfl rfl (Nat.le_of_ble_eq_true rfl) rfl ?_
          refine g_goto 4 dX9_wasThere_41 rfl ?_
          exact g_sub [2, 3, 1, 0] _ rfl (ih M a0 x1 1 (x3 + 1) s0 H (fun v r => hR v r))
set_option maxRecDepth 10000 in
theorem uX9_wasThere {N K : Nat} {X : gX} {d mc ms : Nat} {Q : Option Value → gM → Prop} {M : gM} {a0 : Nat} {x1 : Int32} {R : Int32 → Prop} (s0 : Mo M a0) (H : pX9_wasThere N K M a0 x1 R) (hR : ∀ (v : Int32), R v → Q (some (.int v)) M) : Cn X d mc ms kX9_wasThere [.ref a0, .int (x1)] M Q := by
  have ih := ulX9_wasThere (X := X) (d := d) (mc := mc) (ms := ms) (Q := Q) (N := N) (K := K) (R := R) N
  unfold pX9_wasThere pX9_wasThere_0 at H
  refine g_meth rfl rfl (Nat.le_of_ble_eq_true rfl) rfl ?_
  refine g_iconst (0) 1 dX9_wasThere_0 rfl rfl ?_
  refine g_istore_n 2 [(2, .int (0)), (0, .ref a0), (1, .int (x1))] dX9_wasThere_1 rfl (Nat.le_of_ble_eq_true rfl) rfl ?_
  refine g_iconst (0) 3 dX9_wasThere_2 rfl rfl ?_
  refine g_istore_n 4 [(3, .int (0)), (2, .int (0)), (0, .ref a0), (1, .int (x1))] dX9_wasThere_3 rfl (Nat.le_of_ble_eq_true rfl) rfl ?_
  exact g_sub [2, 3, 1, 0] _ rfl (ih M a0 x1 0 0 s0 H (fun v r => hR v r))
/-! X9_twin -/
def pX9_twin_0 (N K : Nat) (kp : Nat → gM → Nat → Int32 → Int32 → Prop) (R : Int32 → Prop) (M : gM) (a0 : Nat) (x1 : Int32) : Prop := (((g_mi M (a0 + 2) 33) = 0 → R (-1)) ∧ (¬ (g_mi M (a0 + 2) 33) = 0 → (EX9_isKey M x1) ∧ ∀ v1 : Int32, v1 = (fX9_isKey x1) → ((v1 = 0 → R (-1)) ∧ (¬ v1 = 0 → pX9_wasThere N K M a0 x1 (fun v2 => ((v2 = 0 → kp 0 M a0 x1 0) ∧ (¬ v2 = 0 → R (-1))))))))
def pX9_twin_29 (N K : Nat) (kp : Nat → gM → Nat → Int32 → Int32 → Prop) (R : Int32 → Prop) (M : gM) (a0 : Nat) (x1 : Int32) (x2 : Int32) : Prop := (((g_mi M (a0 + 2) 36) ≤ x2 → R (-1)) ∧ (¬ (g_mi M (a0 + 2) 36) ≤ x2 → (vp_in ((37 + x2)) 5812) ∧ pX9_found N K M a0 (g_mi M (a0 + 2) ((37 + x2)).toNatClampNeg) 1 (fun v1 => pX9_found N K M a0 x1 1 (fun v2 => ((¬ v1 = v2 → kp 0 M a0 x1 (x2 + 1)) ∧ (v1 = v2 → R (g_mi M (a0 + 2) ((37 + x2)).toNatClampNeg)))))))
def qX9_twin (N K : Nat) (R : Int32 → Prop) : Nat → Nat → gM → Nat → Int32 → Int32 → Prop
  | 0, _, _, _, _, _ => False
  | n + 1, _, M, a0, x1, x2 => pX9_twin_29 N K (qX9_twin N K R n) R M a0 x1 x2
def pX9_twin (N K : Nat) (M : gM) (a0 : Nat) (x1 : Int32) (R : Int32 → Prop) : Prop := pX9_twin_0 N K (qX9_twin N K R N) R M a0 x1
def ULX9_twin (X : gX) (d mc ms : Nat) (Q : Option Value → gM → Prop) (N K : Nat) (R : Int32 → Prop) (n : Nat) : Prop := (∀ (M : gM) (a0 : Nat) (x1 : Int32) (x2 : Int32), Mo M a0 → qX9_twin N K R n 0 M a0 x1 x2 → (∀ (v : Int32), R v → Q (some (.int v)) M) → Go X (d + 4) mc ms kX9_twin Q 29 [(0, .ref a0), (1, .int (x1)), (2, .int (x2))] [] M 0 0)
set_option maxRecDepth 10000 in
theorem ulX9_twin {X : gX} {d mc ms : Nat} {Q : Option Value → gM → Prop} {N K : Nat} {R : Int32 → Prop} : ∀ n : Nat, ULX9_twin X d mc ms Q N K R n := by
  intro n
  induction n with
  | zero => exact fun _ _ _ _ _ h _ => h.elim
  | succ n ih =>
    intro M a0 x1 x2 s0 H hR
    rw [qX9_twin] at H
    unfold pX9_twin_29 at H
    refine g_iload_n 2 30 dX9_twin_29 rfl rfl ?_
    refine g_aload_n 0 31 dX9_twin_30 rfl rfl ?_
    refine g_getR 34 (a0 + 2) dX9_twin_31 rfl flX9_28 s0.1 s0.2.2.2.1 ?_
    refine g_bipush (36) 36 dX9_twin_34 rfl rfl ?_
    refine h_iaload 37 36 dX9_twin_36 rfl rfl s0.2.2.2.2.1 (vp_lit rfl) ?_
    refine g_icmp_ge 79 40 dX9_twin_37 rfl rfl (fun c1 => ?_) (fun c1 => ?_)
    · skip
      replace H := H.1 c1
      refine g_iconst ((-1)) 80 dX9_twin_79 rfl rfl ?_
      exact g_iret dX9_twin_80 rfl (Nat.zero_le _) (Nat.zero_le _) (hR _ H)
    · skip
      replace H := H.2 c1
      refine g_aload_n 0 41 dX9_twin_40 rfl rfl ?_
      refine g_aload_n 0 42 dX9_twin_41 rfl rfl ?_
      refine g_getR 45 (a0 + 2) dX9_twin_42 rfl flX9_28 s0.1 s0.2.2.2.1 ?_
      refine g_bipush (37) 47 dX9_twin_45 rfl rfl ?_
      refine g_iload_n 2 48 dX9_twin_47 rfl rfl ?_
      refine g_iadd 49 dX9_twin_48 rfl ?_
      obtain ⟨b1, H⟩ := H
      refine h_iaload 50 ((37 + x2)).toNatClampNeg dX9_twin_49 rfl rfl s0.2.2.2.2.1 b1 ?_
      refine g_iconst (1) 51 dX9_twin_50 rfl rfl ?_
      refine g_callV (mc1 := 0) (ms1 := 0) (b := a0) (rest := []) (av := [.int ((g_mi M (a0 + 2) ((37 + x2)).toNatClampNeg)), .int (1)]) kX9_found 54 dX9_twin_51 rfl rfl mbX9_311 imX9_found seX9_found gcl9.1 s0.1 (Nat.le_of_ble_eq_true rfl) (Nat.zero_le _) (Nat.zero_le _) (uX9_found (N := N) (K := K) s0 H (fun v1 H => ?_))
      show Go X (d + 4) mc ms kX9_twin Q 54 [(0, .ref a0), (1, .int (x1)), (2, .int (x2))] [.int (v1)] M 0 0
      refine g_aload_n 0 55 dX9_twin_54 rfl rfl ?_
      refine g_iload_n 1 56 dX9_twin_55 rfl rfl ?_
      refine g_iconst (1) 57 dX9_twin_56 rfl rfl ?_
      refine g_callV (mc1 := 0) (ms1 := 0) (b := a0) (rest := [.int (v1)]) (av := [.int (x1), .int (1)]) kX9_found 60 dX9_twin_57 rfl rfl mbX9_311 imX9_found seX9_found gcl9.1 s0.1 (Nat.le_of_ble_eq_true rfl) (Nat.zero_le _) (Nat.zero_le _) (uX9_found (N := N) (K := K) s0 H (fun v2 H => ?_))
      show Go X (d + 4) mc ms kX9_twin Q 60 [(0, .ref a0), (1, .int (x1)), (2, .int (x2))] [.int (v2), .int (v1)] M 0 0
      refine g_icmp_ne 73 63 dX9_twin_60 rfl rfl (fun c2 => ?_) (fun c2 => ?_)
      · skip
        replace H := H.1 c2
        refine g_iinc _ 2 76 [(2, .int ((x2 + 1))), (0, .ref a0), (1, .int (x1))] dX9_twin_73 rfl rfl rfl (Nat.le_of_ble_eq_true rfl) rfl ?_
        refine g_goto 29 dX9_twin_76 rfl ?_
        exact g_sub [1, 2, 0] _ rfl (ih M a0 x1 (x2 + 1) s0 H (fun v r => hR v r))
      · skip
        replace H := H.2 c2
        refine g_aload_n 0 64 dX9_twin_63 rfl rfl ?_
        refine g_getR 67 (a0 + 2) dX9_twin_64 rfl flX9_28 s0.1 s0.2.2.2.1 ?_
        refine g_bipush (37) 69 dX9_twin_67 rfl rfl ?_
        refine g_iload_n 2 70 dX9_twin_69 rfl rfl ?_
        refine g_iadd 71 dX9_twin_70 rfl ?_
        refine h_iaload 72 ((37 + x2)).toNatClampNeg dX9_twin_71 rfl rfl s0.2.2.2.2.1 b1 ?_
        exact g_iret dX9_twin_72 rfl (Nat.zero_le _) (Nat.zero_le _) (hR _ H)
set_option maxRecDepth 10000 in
theorem uX9_twin {N K : Nat} {X : gX} {d mc ms : Nat} {Q : Option Value → gM → Prop} {M : gM} {a0 : Nat} {x1 : Int32} {R : Int32 → Prop} (s0 : Mo M a0) (H : pX9_twin N K M a0 x1 R) (hR : ∀ (v : Int32), R v → Q (some (.int v)) M) : Cn X (d + 4) mc ms kX9_twin [.ref a0, .int (x1)] M Q := by
  have ih := ulX9_twin (X := X) (d := d) (mc := mc) (ms := ms) (Q := Q) (N := N) (K := K) (R := R) N
  unfold pX9_twin pX9_twin_0 at H
  refine g_meth rfl rfl (Nat.le_of_ble_eq_true rfl) rfl ?_
  refine g_aload_n 0 1 dX9_twin_0 rfl rfl ?_
  refine g_getR 4 (a0 + 2) dX9_twin_1 rfl flX9_28 s0.1 s0.2.2.2.1 ?_
  refine g_bipush (33) 6 dX9_twin_4 rfl rfl ?_
  refine h_iaload 7 33 dX9_twin_6 rfl rfl s0.2.2.2.2.1 (vp_lit rfl) ?_
  refine g_if_eq 25 10 dX9_twin_7 rfl rfl (fun c1 => ?_) (fun c1 => ?_)
  · skip
    replace H := H.1 c1
    refine g_iconst ((-1)) 26 dX9_twin_25 rfl rfl ?_
    exact g_iret dX9_twin_26 rfl (Nat.zero_le _) (Nat.zero_le _) (hR _ H)
  · skip
    replace H := H.2 c1
    refine g_iload_n 1 11 dX9_twin_10 rfl rfl ?_
    obtain ⟨b1, H⟩ := H
    refine g_callS (mc1 := 0) (ms1 := 0) (rest := []) (av := [.int (x1)]) kX9_isKey 14 dX9_twin_11 rfl rfl mbX9_127 smX9_isKey (Nat.le_of_ble_eq_true rfl) (Nat.zero_le _) (Nat.zero_le _) (tX9_isKey b1 ?_)
    show Go X (d + 4) mc ms kX9_twin Q 14 [(0, .ref a0), (1, .int (x1))] [.int ((fX9_isKey x1))] M 0 0
    generalize hv1 : (fX9_isKey x1) = v1
    replace H := H v1 hv1.symm
    refine g_if_eq 25 17 dX9_twin_14 rfl rfl (fun c2 => ?_) (fun c2 => ?_)
    · skip
      replace H := H.1 c2
      refine g_iconst ((-1)) 26 dX9_twin_25 rfl rfl ?_
      exact g_iret dX9_twin_26 rfl (Nat.zero_le _) (Nat.zero_le _) (hR _ H)
    · skip
      replace H := H.2 c2
      refine g_aload_n 0 18 dX9_twin_17 rfl rfl ?_
      refine g_iload_n 1 19 dX9_twin_18 rfl rfl ?_
      refine g_callV (mc1 := 0) (ms1 := 0) (b := a0) (rest := []) (av := [.int (x1)]) kX9_wasThere 22 dX9_twin_19 rfl rfl mbX9_419 imX9_wasThere seX9_wasThere gcl9.1 s0.1 (Nat.le_of_ble_eq_true rfl) (Nat.zero_le _) (Nat.zero_le _) (uX9_wasThere (N := N) (K := K) s0 H (fun v2 H => ?_))
      show Go X (d + 4) mc ms kX9_twin Q 22 [(0, .ref a0), (1, .int (x1))] [.int (v2)] M 0 0
      refine g_if_eq 27 25 dX9_twin_22 rfl rfl (fun c3 => ?_) (fun c3 => ?_)
      · skip
        replace H := H.1 c3
        refine g_iconst (0) 28 dX9_twin_27 rfl rfl ?_
        refine g_istore_n 29 [(2, .int (0)), (0, .ref a0), (1, .int (x1))] dX9_twin_28 rfl (Nat.le_of_ble_eq_true rfl) rfl ?_
        exact g_sub [1, 2, 0] _ rfl (ih M a0 x1 0 s0 H (fun v r => hR v r))
      · skip
        replace H := H.2 c3
        refine g_iconst ((-1)) 26 dX9_twin_25 rfl rfl ?_
        exact g_iret dX9_twin_26 rfl (Nat.zero_le _) (Nat.zero_le _) (hR _ H)
/-! X9_seen -/
def pX9_seen (N K : Nat) (M : gM) (a0 : Nat) (x1 : Int32) (x2 : Int32) (R : Int32 → gM → Prop) : Prop := ∀ v1 : Int32, v1 = (fX9_lies x1 0 59) → ((v1 = 0 → pX9_refuses N K M a0 (-1) (fun v2 M1 => R v2 M1)) ∧ (¬ v1 = 0 → ∀ v3 : Int32, v3 = (fX9_lies x2 0 1) → ((¬ v3 = 0 → ((¬ (g_mi M (a0 + 2) 202) = 6 → (vp_in ((188 + (2 * (g_mi M (a0 + 2) 202)))) 5812) ∧ ∀ M2 : gM, M2 = (g_wi M (a0 + 2) ((188 + (2 * (g_mi M (a0 + 2) 202)))).toNatClampNeg x1) → (vp_in (((188 + (2 * (g_mi M (a0 + 2) 202))) + 1)) 5812) ∧ ∀ M3 : gM, M3 = (g_wi M2 (a0 + 2) (((188 + (2 * (g_mi M (a0 + 2) 202))) + 1)).toNatClampNeg x2) → ∀ M4 : gM, M4 = (g_wi M3 (a0 + 2) 202 ((g_mi M3 (a0 + 2) 202) + 1)) → pX9_good0 N K M4 a0 (g_mi M4 (a0 + 2) 202) (fun v4 M5 => R v4 M5)) ∧ ((g_mi M (a0 + 2) 202) = 6 → pX9_refuses N K M a0 (-5) (fun v5 M6 => R v5 M6)))) ∧ (v3 = 0 → pX9_refuses N K M a0 (-1) (fun v6 M7 => R v6 M7)))))
set_option maxRecDepth 10000 in
theorem uX9_seen {N K : Nat} {X : gX} {d mc ms : Nat} {Q : Option Value → gM → Prop} {M : gM} {a0 : Nat} {x1 : Int32} {x2 : Int32} {R : Int32 → gM → Prop} (s0 : Mo M a0) (H : pX9_seen N K M a0 x1 x2 R) (hR : ∀ (v : Int32) (M1 : gM), Sm M M1 → R v M1 → Q (some (.int v)) M1) : Cn X (d + 1) mc ms kX9_seen [.ref a0, .int (x1), .int (x2)] M Q := by
  unfold pX9_seen at H
  refine g_meth rfl rfl (Nat.le_of_ble_eq_true rfl) rfl ?_
  refine g_iload_n 1 1 dX9_seen_0 rfl rfl ?_
  refine g_iconst (0) 2 dX9_seen_1 rfl rfl ?_
  refine g_bipush (59) 4 dX9_seen_2 rfl rfl ?_
  refine g_callS (mc1 := 0) (ms1 := 0) (rest := []) (av := [.int (x1), .int (0), .int (59)]) kX9_lies 7 dX9_seen_4 rfl rfl mbX9_18 smX9_lies (Nat.le_of_ble_eq_true rfl) (Nat.zero_le _) (Nat.zero_le _) (tX9_lies  ?_)
  show Go X (d + 1) mc ms kX9_seen Q 7 [(0, .ref a0), (1, .int (x1)), (2, .int (x2))] [.int ((fX9_lies x1 0 59))] M 0 0
  generalize hv1 : (fX9_lies x1 0 59) = v1
  replace H := H v1 hv1.symm
  refine g_if_eq 19 10 dX9_seen_7 rfl rfl (fun c1 => ?_) (fun c1 => ?_)
  · skip
    replace H := H.1 c1
    refine g_aload_n 0 20 dX9_seen_19 rfl rfl ?_
    refine g_iconst ((-1)) 21 dX9_seen_20 rfl rfl ?_
    refine g_callV (mc1 := 0) (ms1 := 0) (b := a0) (rest := []) (av := [.int ((-1))]) kX9_refuses 24 dX9_seen_21 rfl rfl mbX9_103 imX9_refuses seX9_refuses gcl9.1 s0.1 (Nat.le_of_ble_eq_true rfl) (Nat.zero_le _) (Nat.zero_le _) (uX9_refuses (N := N) (K := K) s0 H (fun v2 M1 jj H => ?_))
    have j1 : Sm M M1 := jj
    show Go X (d + 1) mc ms kX9_seen Q 24 [(0, .ref a0), (1, .int (x1)), (2, .int (x2))] [.int (v2)] M1 0 0
    exact g_iret dX9_seen_24 rfl (Nat.zero_le _) (Nat.zero_le _) (hR _ _ j1 H)
  · skip
    replace H := H.2 c1
    refine g_iload_n 2 11 dX9_seen_10 rfl rfl ?_
    refine g_iconst (0) 12 dX9_seen_11 rfl rfl ?_
    refine g_iconst (1) 13 dX9_seen_12 rfl rfl ?_
    refine g_callS (mc1 := 0) (ms1 := 0) (rest := []) (av := [.int (x2), .int (0), .int (1)]) kX9_lies 16 dX9_seen_13 rfl rfl mbX9_18 smX9_lies (Nat.le_of_ble_eq_true rfl) (Nat.zero_le _) (Nat.zero_le _) (tX9_lies  ?_)
    show Go X (d + 1) mc ms kX9_seen Q 16 [(0, .ref a0), (1, .int (x1)), (2, .int (x2))] [.int ((fX9_lies x2 0 1))] M 0 0
    generalize hv3 : (fX9_lies x2 0 1) = v3
    replace H := H v3 hv3.symm
    refine g_if_ne 25 19 dX9_seen_16 rfl rfl (fun c2 => ?_) (fun c2 => ?_)
    · skip
      replace H := H.1 c2
      refine g_sipush (188) 28 dX9_seen_25 rfl rfl ?_
      refine g_iconst (2) 29 dX9_seen_28 rfl rfl ?_
      refine g_aload_n 0 30 dX9_seen_29 rfl rfl ?_
      refine g_getR 33 (a0 + 2) dX9_seen_30 rfl flX9_28 s0.1 s0.2.2.2.1 ?_
      refine g_sipush (202) 36 dX9_seen_33 rfl rfl ?_
      refine h_iaload 37 202 dX9_seen_36 rfl rfl s0.2.2.2.2.1 (vp_lit rfl) ?_
      refine g_imul 38 dX9_seen_37 rfl ?_
      refine g_iadd 39 dX9_seen_38 rfl ?_
      refine g_istore_n 40 [(3, .int ((188 + (2 * (g_mi M (a0 + 2) 202))))), (0, .ref a0), (1, .int (x1)), (2, .int (x2))] dX9_seen_39 rfl (Nat.le_of_ble_eq_true rfl) rfl ?_
      refine g_aload_n 1 41 dX9_seen_40 rfl rfl ?_
      refine g_getR 44 (a0 + 2) dX9_seen_41 rfl flX9_28 s0.1 s0.2.2.2.1 ?_
      refine g_sipush (202) 47 dX9_seen_44 rfl rfl ?_
      refine h_iaload 48 202 dX9_seen_47 rfl rfl s0.2.2.2.2.1 (vp_lit rfl) ?_
      refine g_bipush (6) 50 dX9_seen_48 rfl rfl ?_
      refine g_icmp_ne 60 53 dX9_seen_50 rfl rfl (fun c3 => ?_) (fun c3 => ?_)
      · skip
        replace H := H.1 c3
        refine g_aload_n 1 61 dX9_seen_60 rfl rfl ?_
        refine g_getR 64 (a0 + 2) dX9_seen_61 rfl flX9_28 s0.1 s0.2.2.2.1 ?_
        refine g_iload_n 0 65 dX9_seen_64 rfl rfl ?_
        refine g_iload_n 2 66 dX9_seen_65 rfl rfl ?_
        obtain ⟨b1, H⟩ := H
        refine h_iastore 67 ((188 + (2 * (g_mi M (a0 + 2) 202)))).toNatClampNeg dX9_seen_66 rfl rfl s0.2.2.2.2.1 b1 ?_
        generalize hM2 : (g_wi M (a0 + 2) ((188 + (2 * (g_mi M (a0 + 2) 202)))).toNatClampNeg x1) = M2
        have j2 : Sm M M2 := by rw [← hM2]; exact (Sm.wi Sm.rf)
        replace H := H M2 hM2.symm
        refine g_aload_n 1 68 dX9_seen_67 rfl rfl ?_
        refine g_getR 71 (a0 + 2) dX9_seen_68 rfl flX9_28 (Sm.k j2 s0.1) (Sm.r j2 s0.2.2.2.1) ?_
        refine g_iload_n 0 72 dX9_seen_71 rfl rfl ?_
        refine g_iconst (1) 73 dX9_seen_72 rfl rfl ?_
        refine g_iadd 74 dX9_seen_73 rfl ?_
        refine g_iload_n 3 75 dX9_seen_74 rfl rfl ?_
        obtain ⟨b2, H⟩ := H
        refine h_iastore 76 (((188 + (2 * (g_mi M (a0 + 2) 202))) + 1)).toNatClampNeg dX9_seen_75 rfl rfl (Sm.k j2 s0.2.2.2.2.1) b2 ?_
        generalize hM3 : (g_wi M2 (a0 + 2) (((188 + (2 * (g_mi M (a0 + 2) 202))) + 1)).toNatClampNeg x2) = M3
        have j3 : Sm M M3 := by rw [← hM3]; exact (Sm.wi j2)
        replace H := H M3 hM3.symm
        refine g_aload_n 1 77 dX9_seen_76 rfl rfl ?_
        refine g_getR 80 (a0 + 2) dX9_seen_77 rfl flX9_28 (Sm.k j3 s0.1) (Sm.r j3 s0.2.2.2.1) ?_
        refine g_sipush (202) 83 dX9_seen_80 rfl rfl ?_
        refine g_dup2 84 dX9_seen_83 rfl rfl rfl ?_
        refine h_iaload 85 202 dX9_seen_84 rfl rfl (Sm.k j3 s0.2.2.2.2.1) (vp_lit rfl) ?_
        refine g_iconst (1) 86 dX9_seen_85 rfl rfl ?_
        refine g_iadd 87 dX9_seen_86 rfl ?_
        refine h_iastore 88 202 dX9_seen_87 rfl rfl (Sm.k j3 s0.2.2.2.2.1) (vp_lit rfl) ?_
        generalize hM4 : (g_wi M3 (a0 + 2) 202 ((g_mi M3 (a0 + 2) 202) + 1)) = M4
        have j4 : Sm M M4 := by rw [← hM4]; exact (Sm.wi j3)
        replace H := H M4 hM4.symm
        refine g_aload_n 1 89 dX9_seen_88 rfl rfl ?_
        refine g_aload_n 1 90 dX9_seen_89 rfl rfl ?_
        refine g_getR 93 (a0 + 2) dX9_seen_90 rfl flX9_28 (Sm.k j4 s0.1) (Sm.r j4 s0.2.2.2.1) ?_
        refine g_sipush (202) 96 dX9_seen_93 rfl rfl ?_
        refine h_iaload 97 202 dX9_seen_96 rfl rfl (Sm.k j4 s0.2.2.2.2.1) (vp_lit rfl) ?_
        refine g_callV (mc1 := 0) (ms1 := 0) (b := a0) (rest := []) (av := [.int ((g_mi M4 (a0 + 2) 202))]) kX9_good0 100 dX9_seen_97 rfl rfl mbX9_14 imX9_good0 seX9_good0 gcl9.1 (Sm.k j4 s0.1) (Nat.le_of_ble_eq_true rfl) (Nat.zero_le _) (Nat.zero_le _) (uX9_good0 (N := N) (K := K) (Mo.sm j4 s0) H (fun v4 M5 jj H => ?_))
        have j5 : Sm M M5 := Sm.tr j4 jj
        show Go X (d + 1) mc ms kX9_seen Q 100 [(3, .int ((188 + (2 * (g_mi M (a0 + 2) 202))))), (0, .ref a0), (1, .int (x1)), (2, .int (x2))] [.int (v4)] M5 0 0
        exact g_iret dX9_seen_100 rfl (Nat.zero_le _) (Nat.zero_le _) (hR _ _ j5 H)
      · skip
        replace H := H.2 c3
        refine g_aload_n 1 54 dX9_seen_53 rfl rfl ?_
        refine g_bipush ((-5)) 56 dX9_seen_54 rfl rfl ?_
        refine g_callV (mc1 := 0) (ms1 := 0) (b := a0) (rest := []) (av := [.int ((-5))]) kX9_refuses 59 dX9_seen_56 rfl rfl mbX9_103 imX9_refuses seX9_refuses gcl9.1 s0.1 (Nat.le_of_ble_eq_true rfl) (Nat.zero_le _) (Nat.zero_le _) (uX9_refuses (N := N) (K := K) s0 H (fun v5 M6 jj H => ?_))
        have j6 : Sm M M6 := jj
        show Go X (d + 1) mc ms kX9_seen Q 59 [(3, .int ((188 + (2 * (g_mi M (a0 + 2) 202))))), (0, .ref a0), (1, .int (x1)), (2, .int (x2))] [.int (v5)] M6 0 0
        exact g_iret dX9_seen_59 rfl (Nat.zero_le _) (Nat.zero_le _) (hR _ _ j6 H)
    · skip
      replace H := H.2 c2
      refine g_aload_n 0 20 dX9_seen_19 rfl rfl ?_
      refine g_iconst ((-1)) 21 dX9_seen_20 rfl rfl ?_
      refine g_callV (mc1 := 0) (ms1 := 0) (b := a0) (rest := []) (av := [.int ((-1))]) kX9_refuses 24 dX9_seen_21 rfl rfl mbX9_103 imX9_refuses seX9_refuses gcl9.1 s0.1 (Nat.le_of_ble_eq_true rfl) (Nat.zero_le _) (Nat.zero_le _) (uX9_refuses (N := N) (K := K) s0 H (fun v6 M7 jj H => ?_))
      have j7 : Sm M M7 := jj
      show Go X (d + 1) mc ms kX9_seen Q 24 [(0, .ref a0), (1, .int (x1)), (2, .int (x2))] [.int (v6)] M7 0 0
      exact g_iret dX9_seen_24 rfl (Nat.zero_le _) (Nat.zero_le _) (hR _ _ j7 H)
/-! X9_forget -/
def pX9_forget (N K : Nat) (M : gM) (a0 : Nat) (R : Int32 → gM → Prop) : Prop := ∀ M1 : gM, M1 = (g_wi M (a0 + 2) 202 0) → R (g_mi M (a0 + 2) 202) M1
set_option maxRecDepth 10000 in
theorem uX9_forget {N K : Nat} {X : gX} {d mc ms : Nat} {Q : Option Value → gM → Prop} {M : gM} {a0 : Nat} {R : Int32 → gM → Prop} (s0 : Mo M a0) (H : pX9_forget N K M a0 R) (hR : ∀ (v : Int32) (M1 : gM), Sm M M1 → R v M1 → Q (some (.int v)) M1) : Cn X d mc ms kX9_forget [.ref a0] M Q := by
  unfold pX9_forget at H
  refine g_meth rfl rfl (Nat.le_of_ble_eq_true rfl) rfl ?_
  refine g_aload_n 0 1 dX9_forget_0 rfl rfl ?_
  refine g_getR 4 (a0 + 2) dX9_forget_1 rfl flX9_28 s0.1 s0.2.2.2.1 ?_
  refine g_sipush (202) 7 dX9_forget_4 rfl rfl ?_
  refine h_iaload 8 202 dX9_forget_7 rfl rfl s0.2.2.2.2.1 (vp_lit rfl) ?_
  refine g_istore_n 9 [(1, .int ((g_mi M (a0 + 2) 202))), (0, .ref a0)] dX9_forget_8 rfl (Nat.le_of_ble_eq_true rfl) rfl ?_
  refine g_aload_n 1 10 dX9_forget_9 rfl rfl ?_
  refine g_getR 13 (a0 + 2) dX9_forget_10 rfl flX9_28 s0.1 s0.2.2.2.1 ?_
  refine g_sipush (202) 16 dX9_forget_13 rfl rfl ?_
  refine g_iconst (0) 17 dX9_forget_16 rfl rfl ?_
  refine h_iastore 18 202 dX9_forget_17 rfl rfl s0.2.2.2.2.1 (vp_lit rfl) ?_
  generalize hM1 : (g_wi M (a0 + 2) 202 0) = M1
  have j1 : Sm M M1 := by rw [← hM1]; exact (Sm.wi Sm.rf)
  replace H := H M1 hM1.symm
  refine g_iload_n 0 19 dX9_forget_18 rfl rfl ?_
  exact g_iret dX9_forget_19 rfl (Nat.zero_le _) (Nat.zero_le _) (hR _ _ j1 H)
/-! X9_has -/
def pX9_has (N K : Nat) (M : gM) (a0 : Nat) (x1 : Int32) (x2 : Int32) (R : Int32 → Prop) : Prop := (EX9_hasVertex N M x1 x2 (g_mi M (a0 + 2) 32) (g_mi M (a0 + 2) 31)) ∧ ∀ v1 : Int32, v1 = (fX9_hasVertex N M x1 x2 (g_mi M (a0 + 2) 32) (g_mi M (a0 + 2) 31)) → (v1 = 0 ∨ v1 = 1) ∧ R v1
set_option maxRecDepth 10000 in
theorem uX9_has {N K : Nat} {X : gX} {d mc ms : Nat} {Q : Option Value → gM → Prop} {M : gM} {a0 : Nat} {x1 : Int32} {x2 : Int32} {R : Int32 → Prop} (s0 : Mo M a0) (H : pX9_has N K M a0 x1 x2 R) (hR : ∀ (v : Int32), R v → Q (some (.int v)) M) : Cn X (d + 2) mc ms kX9_has [.ref a0, .int (x1), .int (x2)] M Q := by
  unfold pX9_has at H
  refine g_meth rfl rfl (Nat.le_of_ble_eq_true rfl) rfl ?_
  refine g_iload_n 1 1 dX9_has_0 rfl rfl ?_
  refine g_iload_n 2 2 dX9_has_1 rfl rfl ?_
  refine g_aload_n 0 3 dX9_has_2 rfl rfl ?_
  refine g_getR 6 (a0 + 2) dX9_has_3 rfl flX9_28 s0.1 s0.2.2.2.1 ?_
  refine g_bipush (32) 8 dX9_has_6 rfl rfl ?_
  refine h_iaload 9 32 dX9_has_8 rfl rfl s0.2.2.2.2.1 (vp_lit rfl) ?_
  refine g_aload_n 0 10 dX9_has_9 rfl rfl ?_
  refine g_getR 13 (a0 + 2) dX9_has_10 rfl flX9_28 s0.1 s0.2.2.2.1 ?_
  refine g_bipush (31) 15 dX9_has_13 rfl rfl ?_
  refine h_iaload 16 31 dX9_has_15 rfl rfl s0.2.2.2.2.1 (vp_lit rfl) ?_
  obtain ⟨b1, H⟩ := H
  refine g_callS (mc1 := 0) (ms1 := 0) (rest := []) (av := [.int (x1), .int (x2), .int ((g_mi M (a0 + 2) 32)), .int ((g_mi M (a0 + 2) 31))]) kX9_hasVertex 19 dX9_has_16 rfl rfl mbX9_119 smX9_hasVertex (Nat.le_of_ble_eq_true rfl) (Nat.zero_le _) (Nat.zero_le _) (tX9_hasVertex (N := N) b1 ?_)
  show Go X (d + 2) mc ms kX9_has Q 19 [(0, .ref a0), (1, .int (x1)), (2, .int (x2))] [.int ((fX9_hasVertex N M x1 x2 (g_mi M (a0 + 2) 32) (g_mi M (a0 + 2) 31)))] M 0 0
  generalize hv1 : (fX9_hasVertex N M x1 x2 (g_mi M (a0 + 2) 32) (g_mi M (a0 + 2) 31)) = v1
  replace H := H v1 hv1.symm
  obtain ⟨b2, H⟩ := H
  exact g_zret dX9_has_19 rfl b2 (Nat.zero_le _) (Nat.zero_le _) (hR _ H)
/-! X9_isSo -/
def pX9_isSo_0 (N K : Nat) (kp : Nat → gM → Nat → Int32 → Int32 → Int32 → Prop) (R : Int32 → Prop) (M : gM) (a0 : Nat) (x1 : Int32) : Prop := kp 0 M a0 x1 1 0
def pX9_isSo_4 (N K : Nat) (kp : Nat → gM → Nat → Int32 → Int32 → Int32 → Prop) (R : Int32 → Prop) (M : gM) (a0 : Nat) (x1 : Int32) (x2 : Int32) (x3 : Int32) : Prop := (((g_mi M (a0 + 2) 202) ≤ x3 → (x2 = 0 ∨ x2 = 1) ∧ R x2) ∧ (¬ (g_mi M (a0 + 2) 202) ≤ x3 → ((x2 = 0 → kp 0 M a0 x1 0 (x3 + 1)) ∧ (¬ x2 = 0 → (vp_in ((188 + (2 * x3))) 5812) ∧ pX9_has N K M a0 x1 (g_mi M (a0 + 2) ((188 + (2 * x3))).toNatClampNeg) (fun v1 => (vp_in (((188 + (2 * x3)) + 1)) 5812) ∧ ((¬ (g_mi M (a0 + 2) (((188 + (2 * x3)) + 1)).toNatClampNeg) = 1 → ((¬ v1 = 0 → kp 0 M a0 x1 0 (x3 + 1)) ∧ (v1 = 0 → kp 0 M a0 x1 1 (x3 + 1)))) ∧ ((g_mi M (a0 + 2) (((188 + (2 * x3)) + 1)).toNatClampNeg) = 1 → ((¬ v1 = 1 → kp 0 M a0 x1 0 (x3 + 1)) ∧ (v1 = 1 → kp 0 M a0 x1 1 (x3 + 1))))))))))
def qX9_isSo (N K : Nat) (R : Int32 → Prop) : Nat → Nat → gM → Nat → Int32 → Int32 → Int32 → Prop
  | 0, _, _, _, _, _, _ => False
  | n + 1, _, M, a0, x1, x2, x3 => pX9_isSo_4 N K (qX9_isSo N K R n) R M a0 x1 x2 x3
def pX9_isSo (N K : Nat) (M : gM) (a0 : Nat) (x1 : Int32) (R : Int32 → Prop) : Prop := pX9_isSo_0 N K (qX9_isSo N K R N) R M a0 x1
def ULX9_isSo (X : gX) (d mc ms : Nat) (Q : Option Value → gM → Prop) (N K : Nat) (R : Int32 → Prop) (n : Nat) : Prop := (∀ (M : gM) (a0 : Nat) (x1 : Int32) (x2 : Int32) (x3 : Int32), Mo M a0 → qX9_isSo N K R n 0 M a0 x1 x2 x3 → (∀ (v : Int32), R v → Q (some (.int v)) M) → Go X (d + 3) mc ms kX9_isSo Q 4 [(0, .ref a0), (1, .int (x1)), (2, .int (x2)), (3, .int (x3))] [] M 0 0)
set_option maxRecDepth 10000 in
theorem ulX9_isSo {X : gX} {d mc ms : Nat} {Q : Option Value → gM → Prop} {N K : Nat} {R : Int32 → Prop} : ∀ n : Nat, ULX9_isSo X d mc ms Q N K R n := by
  intro n
  induction n with
  | zero => exact fun _ _ _ _ _ _ h _ => h.elim
  | succ n ih =>
    intro M a0 x1 x2 x3 s0 H hR
    rw [qX9_isSo] at H
    unfold pX9_isSo_4 at H
    refine g_iload_n 3 5 dX9_isSo_4 rfl rfl ?_
    refine g_aload_n 0 6 dX9_isSo_5 rfl rfl ?_
    refine g_getR 9 (a0 + 2) dX9_isSo_6 rfl flX9_28 s0.1 s0.2.2.2.1 ?_
    refine g_sipush (202) 12 dX9_isSo_9 rfl rfl ?_
    refine h_iaload 13 202 dX9_isSo_12 rfl rfl s0.2.2.2.2.1 (vp_lit rfl) ?_
    refine g_icmp_ge 75 16 dX9_isSo_13 rfl rfl (fun c1 => ?_) (fun c1 => ?_)
    · skip
      replace H := H.1 c1
      refine g_iload_n 2 76 dX9_isSo_75 rfl rfl ?_
      obtain ⟨b1, H⟩ := H
      exact g_zret dX9_isSo_76 rfl b1 (Nat.zero_le _) (Nat.zero_le _) (hR _ H)
    · skip
      replace H := H.2 c1
      refine g_iload_n 2 17 dX9_isSo_16 rfl rfl ?_
      refine g_if_eq 67 20 dX9_isSo_17 rfl rfl (fun c2 => ?_) (fun c2 => ?_)
      · skip
        replace H := H.1 c2
        refine g_iconst (0) 68 dX9_isSo_67 rfl rfl ?_
        refine g_istore_n 69 [(2, .int (0)), (0, .ref a0), (1, .int (x1)), (3, .int (x3))] dX9_isSo_68 rfl (Nat.le_of_ble_eq_true rfl) rfl ?_
        refine g_iinc _ 3 72 [(3, .int ((x3 + 1))), (2, .int (0)), (0, .ref a0), (1, .int (x1))] dX9_isSo_69 rfl rfl rfl (Nat.le_of_ble_eq_true rfl) rfl ?_
        refine g_goto 4 dX9_isSo_72 rfl ?_
        exact g_sub [2, 3, 1, 0] _ rfl (ih M a0 x1 0 (x3 + 1) s0 H (fun v r => hR v r))
      · skip
        replace H := H.2 c2
        refine g_aload_n 0 21 dX9_isSo_20 rfl rfl ?_
        refine g_iload_n 1 22 dX9_isSo_21 rfl rfl ?_
        refine g_aload_n 0 23 dX9_isSo_22 rfl rfl ?_
        refine g_getR 26 (a0 + 2) dX9_isSo_23 rfl flX9_28 s0.1 s0.2.2.2.1 ?_
        refine g_sipush (188) 29 dX9_isSo_26 rfl rfl ?_
        refine g_iconst (2) 30 dX9_isSo_29 rfl rfl ?_
        refine g_iload_n 3 31 dX9_isSo_30 rfl rfl ?_
        refine g_imul 32 dX9_isSo_31 rfl ?_
        refine g_iadd 33 dX9_isSo_32 rfl ?_
        obtain ⟨b2, H⟩ := H
        refine h_iaload 34 ((188 + (2 * x3))).toNatClampNeg dX9_isSo_33 rfl rfl s0.2.2.2.2.1 b2 ?_
        refine g_callV (mc1 := 0) (ms1 := 0) (b := a0) (rest := []) (av := [.int (x1), .int ((g_mi M (a0 + 2) ((188 + (2 * x3))).toNatClampNeg))]) kX9_has 37 dX9_isSo_34 rfl rfl mbX9_422 imX9_has seX9_has gcl9.1 s0.1 (Nat.le_of_ble_eq_true rfl) (Nat.zero_le _) (Nat.zero_le _) (uX9_has (N := N) (K := K) s0 H (fun v1 H => ?_))
        show Go X (d + 3) mc ms kX9_isSo Q 37 [(0, .ref a0), (1, .int (x1)), (2, .int (x2)), (3, .int (x3))] [.int (v1)] M 0 0
        refine g_aload_n 0 38 dX9_isSo_37 rfl rfl ?_
        refine g_getR 41 (a0 + 2) dX9_isSo_38 rfl flX9_28 s0.1 s0.2.2.2.1 ?_
        refine g_sipush (188) 44 dX9_isSo_41 rfl rfl ?_
        refine g_iconst (2) 45 dX9_isSo_44 rfl rfl ?_
        refine g_iload_n 3 46 dX9_isSo_45 rfl rfl ?_
        refine g_imul 47 dX9_isSo_46 rfl ?_
        refine g_iadd 48 dX9_isSo_47 rfl ?_
        refine g_iconst (1) 49 dX9_isSo_48 rfl rfl ?_
        refine g_iadd 50 dX9_isSo_49 rfl ?_
        obtain ⟨b3, H⟩ := H
        refine h_iaload 51 (((188 + (2 * x3)) + 1)).toNatClampNeg dX9_isSo_50 rfl rfl s0.2.2.2.2.1 b3 ?_
        refine g_iconst (1) 52 dX9_isSo_51 rfl rfl ?_
        refine g_icmp_ne 59 55 dX9_isSo_52 rfl rfl (fun c3 => ?_) (fun c3 => ?_)
        · skip
          replace H := H.1 c3
          refine g_iconst (0) 60 dX9_isSo_59 rfl rfl ?_
          refine g_icmp_ne 67 63 dX9_isSo_60 rfl rfl (fun c4 => ?_) (fun c4 => ?_)
          · skip
            replace H := H.1 c4
            refine g_iconst (0) 68 dX9_isSo_67 rfl rfl ?_
            refine g_istore_n 69 [(2, .int (0)), (0, .ref a0), (1, .int (x1)), (3, .int (x3))] dX9_isSo_68 rfl (Nat.le_of_ble_eq_true rfl) rfl ?_
            refine g_iinc _ 3 72 [(3, .int ((x3 + 1))), (2, .int (0)), (0, .ref a0), (1, .int (x1))] dX9_isSo_69 rfl rfl rfl (Nat.le_of_ble_eq_true rfl) rfl ?_
            refine g_goto 4 dX9_isSo_72 rfl ?_
            exact g_sub [2, 3, 1, 0] _ rfl (ih M a0 x1 0 (x3 + 1) s0 H (fun v r => hR v r))
          · skip
            replace H := H.2 c4
            refine g_iconst (1) 64 dX9_isSo_63 rfl rfl ?_
            refine g_goto 68 dX9_isSo_64 rfl ?_
            refine g_istore_n 69 [(2, .int (1)), (0, .ref a0), (1, .int (x1)), (3, .int (x3))] dX9_isSo_68 rfl (Nat.le_of_ble_eq_true rfl) rfl ?_
            refine g_iinc _ 3 72 [(3, .int ((x3 + 1))), (2, .int (1)), (0, .ref a0), (1, .int (x1))] dX9_isSo_69 rfl rfl rfl (Nat.le_of_ble_eq_true rfl) rfl ?_
            refine g_goto 4 dX9_isSo_72 rfl ?_
            exact g_sub [2, 3, 1, 0] _ rfl (ih M a0 x1 1 (x3 + 1) s0 H (fun v r => hR v r))
        · skip
          replace H := H.2 c3
          refine g_iconst (1) 56 dX9_isSo_55 rfl rfl ?_
          refine g_goto 60 dX9_isSo_56 rfl ?_
          refine g_icmp_ne 67 63 dX9_isSo_60 rfl rfl (fun c5 => ?_) (fun c5 => ?_)
          · skip
            replace H := H.1 c5
            refine g_iconst (0) 68 dX9_isSo_67 rfl rfl ?_
            refine g_istore_n 69 [(2, .int (0)), (0, .ref a0), (1, .int (x1)), (3, .int (x3))] dX9_isSo_68 rfl (Nat.le_of_ble_eq_true rfl) rfl ?_
            refine g_iinc _ 3 72 [(3, .int ((x3 + 1))), (2, .int (0)), (0, .ref a0), (1, .int (x1))] dX9_isSo_69 rfl rfl rfl (Nat.le_of_ble_eq_true rfl) rfl ?_
            refine g_goto 4 dX9_isSo_72 rfl ?_
            exact g_sub [2, 3, 1, 0] _ rfl (ih M a0 x1 0 (x3 + 1) s0 H (fun v r => hR v r))
          · skip
            replace H := H.2 c5
            refine g_iconst (1) 64 dX9_isSo_63 rfl rfl ?_
            refine g_goto 68 dX9_isSo_64 rfl ?_
            refine g_istore_n 69 [(2, .int (1)), (0, .ref a0), (1, .int (x1)), (3, .int (x3))] dX9_isSo_68 rfl (Nat.le_of_ble_eq_true rfl) rfl ?_
            refine g_iinc _ 3 72 [(3, .int ((x3 + 1))), (2, .int (1)), (0, .ref a0), (1, .int (x1))] dX9_isSo_69 rfl rfl rfl (Nat.le_of_ble_eq_true rfl) rfl ?_
            refine g_goto 4 dX9_isSo_72 rfl ?_
            exact g_sub [2, 3, 1, 0] _ rfl (ih M a0 x1 1 (x3 + 1) s0 H (fun v r => hR v r))
set_option maxRecDepth 10000 in
theorem uX9_isSo {N K : Nat} {X : gX} {d mc ms : Nat} {Q : Option Value → gM → Prop} {M : gM} {a0 : Nat} {x1 : Int32} {R : Int32 → Prop} (s0 : Mo M a0) (H : pX9_isSo N K M a0 x1 R) (hR : ∀ (v : Int32), R v → Q (some (.int v)) M) : Cn X (d + 3) mc ms kX9_isSo [.ref a0, .int (x1)] M Q := by
  have ih := ulX9_isSo (X := X) (d := d) (mc := mc) (ms := ms) (Q := Q) (N := N) (K := K) (R := R) N
  unfold pX9_isSo pX9_isSo_0 at H
  refine g_meth rfl rfl (Nat.le_of_ble_eq_true rfl) rfl ?_
  refine g_iconst (1) 1 dX9_isSo_0 rfl rfl ?_
  refine g_istore_n 2 [(2, .int (1)), (0, .ref a0), (1, .int (x1))] dX9_isSo_1 rfl (Nat.le_of_ble_eq_true rfl) rfl ?_
  refine g_iconst (0) 3 dX9_isSo_2 rfl rfl ?_
  refine g_istore_n 4 [(3, .int (0)), (2, .int (1)), (0, .ref a0), (1, .int (x1))] dX9_isSo_3 rfl (Nat.le_of_ble_eq_true rfl) rfl ?_
  exact g_sub [2, 3, 1, 0] _ rfl (ih M a0 x1 1 0 s0 H (fun v r => hR v r))
/-! X9_canBe -/
def pX9_canBe_0 (N K : Nat) (kp : Nat → gM → Nat → Int32 → Int32 → Int32 → Prop) (R : Int32 → Prop) (M : gM) (a0 : Nat) (x1 : Int32) : Prop := (((-1) ≤ x1 → kp 0 M a0 x1 0 0) ∧ (¬ (-1) ≤ x1 → R (-1)))
def pX9_canBe_11 (N K : Nat) (kp : Nat → gM → Nat → Int32 → Int32 → Int32 → Prop) (R : Int32 → Prop) (M : gM) (a0 : Nat) (x1 : Int32) (x2 : Int32) (x3 : Int32) : Prop := (((g_mi M (a0 + 2) 0) ≤ x3 → ((¬ x1 = (-1) → R (-1)) ∧ (x1 = (-1) → R x2))) ∧ (¬ (g_mi M (a0 + 2) 0) ≤ x3 → (EX9_keyAt M a0 x3) ∧ ∀ v1 : Int32, v1 = (fX9_keyAt M a0 x3) → pX9_isSo N K M a0 v1 (fun v2 => ((¬ v2 = 0 → ((¬ x2 = x1 → kp 0 M a0 x1 (x2 + 1) (x3 + 1)) ∧ (x2 = x1 → ∀ v3 : Int32, v3 = (fX9_keyAt M a0 x3) → R v3))) ∧ (v2 = 0 → kp 0 M a0 x1 x2 (x3 + 1))))))
def qX9_canBe (N K : Nat) (R : Int32 → Prop) : Nat → Nat → gM → Nat → Int32 → Int32 → Int32 → Prop
  | 0, _, _, _, _, _, _ => False
  | n + 1, _, M, a0, x1, x2, x3 => pX9_canBe_11 N K (qX9_canBe N K R n) R M a0 x1 x2 x3
def pX9_canBe (N K : Nat) (M : gM) (a0 : Nat) (x1 : Int32) (R : Int32 → Prop) : Prop := pX9_canBe_0 N K (qX9_canBe N K R N) R M a0 x1
def ULX9_canBe (X : gX) (d mc ms : Nat) (Q : Option Value → gM → Prop) (N K : Nat) (R : Int32 → Prop) (n : Nat) : Prop := (∀ (M : gM) (a0 : Nat) (x1 : Int32) (x2 : Int32) (x3 : Int32), Mo M a0 → qX9_canBe N K R n 0 M a0 x1 x2 x3 → (∀ (v : Int32), R v → Q (some (.int v)) M) → Go X (d + 4) mc ms kX9_canBe Q 11 [(0, .ref a0), (1, .int (x1)), (2, .int (x2)), (3, .int (x3))] [] M 0 0)
set_option maxRecDepth 10000 in
theorem ulX9_canBe {X : gX} {d mc ms : Nat} {Q : Option Value → gM → Prop} {N K : Nat} {R : Int32 → Prop} : ∀ n : Nat, ULX9_canBe X d mc ms Q N K R n := by
  intro n
  induction n with
  | zero => exact fun _ _ _ _ _ _ h _ => h.elim
  | succ n ih =>
    intro M a0 x1 x2 x3 s0 H hR
    rw [qX9_canBe] at H
    unfold pX9_canBe_11 at H
    refine g_iload_n 3 12 dX9_canBe_11 rfl rfl ?_
    refine g_aload_n 0 13 dX9_canBe_12 rfl rfl ?_
    refine g_getR 16 (a0 + 2) dX9_canBe_13 rfl flX9_28 s0.1 s0.2.2.2.1 ?_
    refine g_iconst (0) 17 dX9_canBe_16 rfl rfl ?_
    refine h_iaload 18 0 dX9_canBe_17 rfl rfl s0.2.2.2.2.1 (vp_lit rfl) ?_
    refine g_icmp_ge 56 21 dX9_canBe_18 rfl rfl (fun c1 => ?_) (fun c1 => ?_)
    · skip
      replace H := H.1 c1
      refine g_iload_n 1 57 dX9_canBe_56 rfl rfl ?_
      refine g_iconst ((-1)) 58 dX9_canBe_57 rfl rfl ?_
      refine g_icmp_ne 65 61 dX9_canBe_58 rfl rfl (fun c2 => ?_) (fun c2 => ?_)
      · skip
        replace H := H.1 c2
        refine g_iconst ((-1)) 66 dX9_canBe_65 rfl rfl ?_
        exact g_iret dX9_canBe_66 rfl (Nat.zero_le _) (Nat.zero_le _) (hR _ H)
      · skip
        replace H := H.2 c2
        refine g_iload_n 2 62 dX9_canBe_61 rfl rfl ?_
        refine g_goto 66 dX9_canBe_62 rfl ?_
        exact g_iret dX9_canBe_66 rfl (Nat.zero_le _) (Nat.zero_le _) (hR _ H)
    · skip
      replace H := H.2 c1
      refine g_aload_n 0 22 dX9_canBe_21 rfl rfl ?_
      refine g_aload_n 0 23 dX9_canBe_22 rfl rfl ?_
      refine g_iload_n 3 24 dX9_canBe_23 rfl rfl ?_
      obtain ⟨b1, H⟩ := H
      refine g_callV (mc1 := 0) (ms1 := 0) (b := a0) (rest := [.ref a0]) (av := [.int (x3)]) kX9_keyAt 27 dX9_canBe_24 rfl rfl mbX9_109 imX9_keyAt seX9_keyAt gcl9.1 s0.1 (Nat.le_of_ble_eq_true rfl) (Nat.zero_le _) (Nat.zero_le _) (tX9_keyAt s0 b1 ?_)
      show Go X (d + 4) mc ms kX9_canBe Q 27 [(0, .ref a0), (1, .int (x1)), (2, .int (x2)), (3, .int (x3))] [.int ((fX9_keyAt M a0 x3)), .ref a0] M 0 0
      generalize hv1 : (fX9_keyAt M a0 x3) = v1
      replace H := H v1 hv1.symm
      refine g_callV (mc1 := 0) (ms1 := 0) (b := a0) (rest := []) (av := [.int (v1)]) kX9_isSo 30 dX9_canBe_27 rfl rfl mbX9_425 imX9_isSo seX9_isSo gcl9.1 s0.1 (Nat.le_of_ble_eq_true rfl) (Nat.zero_le _) (Nat.zero_le _) (uX9_isSo (N := N) (K := K) s0 H (fun v2 H => ?_))
      show Go X (d + 4) mc ms kX9_canBe Q 30 [(0, .ref a0), (1, .int (x1)), (2, .int (x2)), (3, .int (x3))] [.int (v2)] M 0 0
      refine g_if_ne 36 33 dX9_canBe_30 rfl rfl (fun c3 => ?_) (fun c3 => ?_)
      · skip
        replace H := H.1 c3
        refine g_iload_n 2 37 dX9_canBe_36 rfl rfl ?_
        refine g_iload_n 1 38 dX9_canBe_37 rfl rfl ?_
        refine g_icmp_ne 47 41 dX9_canBe_38 rfl rfl (fun c4 => ?_) (fun c4 => ?_)
        · skip
          replace H := H.1 c4
          refine g_iinc _ 2 50 [(2, .int ((x2 + 1))), (0, .ref a0), (1, .int (x1)), (3, .int (x3))] dX9_canBe_47 rfl rfl rfl (Nat.le_of_ble_eq_true rfl) rfl ?_
          refine g_iinc _ 3 53 [(3, .int ((x3 + 1))), (2, .int ((x2 + 1))), (0, .ref a0), (1, .int (x1))] dX9_canBe_50 rfl rfl rfl (Nat.le_of_ble_eq_true rfl) rfl ?_
          refine g_goto 11 dX9_canBe_53 rfl ?_
          exact g_sub [2, 3, 1, 0] _ rfl (ih M a0 x1 (x2 + 1) (x3 + 1) s0 H (fun v r => hR v r))
        · skip
          replace H := H.2 c4
          refine g_aload_n 0 42 dX9_canBe_41 rfl rfl ?_
          refine g_iload_n 3 43 dX9_canBe_42 rfl rfl ?_
          refine g_callV (mc1 := 0) (ms1 := 0) (b := a0) (rest := []) (av := [.int (x3)]) kX9_keyAt 46 dX9_canBe_43 rfl rfl mbX9_109 imX9_keyAt seX9_keyAt gcl9.1 s0.1 (Nat.le_of_ble_eq_true rfl) (Nat.zero_le _) (Nat.zero_le _) (tX9_keyAt s0 b1 ?_)
          show Go X (d + 4) mc ms kX9_canBe Q 46 [(0, .ref a0), (1, .int (x1)), (2, .int (x2)), (3, .int (x3))] [.int ((fX9_keyAt M a0 x3))] M 0 0
          generalize hv3 : (fX9_keyAt M a0 x3) = v3
          replace H := H v3 hv3.symm
          exact g_iret dX9_canBe_46 rfl (Nat.zero_le _) (Nat.zero_le _) (hR _ H)
      · skip
        replace H := H.2 c3
        refine g_goto 50 dX9_canBe_33 rfl ?_
        refine g_iinc _ 3 53 [(3, .int ((x3 + 1))), (0, .ref a0), (1, .int (x1)), (2, .int (x2))] dX9_canBe_50 rfl rfl rfl (Nat.le_of_ble_eq_true rfl) rfl ?_
        refine g_goto 11 dX9_canBe_53 rfl ?_
        exact g_sub [1, 2, 3, 0] _ rfl (ih M a0 x1 x2 (x3 + 1) s0 H (fun v r => hR v r))
set_option maxRecDepth 10000 in
theorem uX9_canBe {N K : Nat} {X : gX} {d mc ms : Nat} {Q : Option Value → gM → Prop} {M : gM} {a0 : Nat} {x1 : Int32} {R : Int32 → Prop} (s0 : Mo M a0) (H : pX9_canBe N K M a0 x1 R) (hR : ∀ (v : Int32), R v → Q (some (.int v)) M) : Cn X (d + 4) mc ms kX9_canBe [.ref a0, .int (x1)] M Q := by
  have ih := ulX9_canBe (X := X) (d := d) (mc := mc) (ms := ms) (Q := Q) (N := N) (K := K) (R := R) N
  unfold pX9_canBe pX9_canBe_0 at H
  refine g_meth rfl rfl (Nat.le_of_ble_eq_true rfl) rfl ?_
  refine g_iload_n 1 1 dX9_canBe_0 rfl rfl ?_
  refine g_iconst ((-1)) 2 dX9_canBe_1 rfl rfl ?_
  refine g_icmp_ge 7 5 dX9_canBe_2 rfl rfl (fun c1 => ?_) (fun c1 => ?_)
  · skip
    replace H := H.1 c1
    refine g_iconst (0) 8 dX9_canBe_7 rfl rfl ?_
    refine g_istore_n 9 [(2, .int (0)), (0, .ref a0), (1, .int (x1))] dX9_canBe_8 rfl (Nat.le_of_ble_eq_true rfl) rfl ?_
    refine g_iconst (0) 10 dX9_canBe_9 rfl rfl ?_
    refine g_istore_n 11 [(3, .int (0)), (2, .int (0)), (0, .ref a0), (1, .int (x1))] dX9_canBe_10 rfl (Nat.le_of_ble_eq_true rfl) rfl ?_
    exact g_sub [2, 3, 1, 0] _ rfl (ih M a0 x1 0 0 s0 H (fun v r => hR v r))
  · skip
    replace H := H.2 c1
    refine g_iconst ((-1)) 6 dX9_canBe_5 rfl rfl ?_
    exact g_iret dX9_canBe_6 rfl (Nat.zero_le _) (Nat.zero_le _) (hR _ H)
/-! X9_ask -/
def pX9_ask_0 (N K : Nat) (kp : Nat → gM → Nat → Int32 → Int32 → Int32 → Int32 → Int32 → Int32 → Int32 → Prop) (R : Int32 → Prop) (M : gM) (a0 : Nat) (x1 : Int32) : Prop := ∀ v1 : Int32, v1 = (fX9_lies x1 0 1) → ((¬ v1 = 0 → pX9_canBe N K M a0 (-1) (fun v2 => kp 0 M a0 x1 v2 (-1) 1000000 0 0 0)) ∧ (v1 = 0 → R (-1)))
def pX9_ask_26 (N K : Nat) (kp : Nat → gM → Nat → Int32 → Int32 → Int32 → Int32 → Int32 → Int32 → Int32 → Prop) (R : Int32 → Prop) (M : gM) (a0 : Nat) (x1 : Int32) (x2 : Int32) (x3 : Int32) (x4 : Int32) (x5 : Int32) : Prop := ∀ v1 : Int32, v1 = (fX9_vertexMany M a0) → ((v1 ≤ x5 → ((x3 = (-1) → R x3) ∧ (¬ x3 = (-1) → ((¬ x1 = 0 → R x4) ∧ (x1 = 0 → R x3))))) ∧ (¬ v1 ≤ x5 → ((x2 ≤ 0 → ((x3 = (-1) → R x3) ∧ (¬ x3 = (-1) → ((¬ x1 = 0 → R x4) ∧ (x1 = 0 → R x3))))) ∧ (¬ x2 ≤ 0 → kp 1 M a0 x1 x2 x3 x4 x5 0 0))))
def pX9_ask_45 (N K : Nat) (kp : Nat → gM → Nat → Int32 → Int32 → Int32 → Int32 → Int32 → Int32 → Int32 → Prop) (R : Int32 → Prop) (M : gM) (a0 : Nat) (x1 : Int32) (x2 : Int32) (x3 : Int32) (x4 : Int32) (x5 : Int32) (x6 : Int32) (x7 : Int32) : Prop := (((g_mi M (a0 + 2) 0) ≤ x7 → ∀ v1 : Int32, v1 = (fX9_greater x6 (x2 - x6)) → ((v1 < x4 → kp 0 M a0 x1 x2 x5 v1 (x5 + 1) 0 0) ∧ (¬ v1 < x4 → kp 0 M a0 x1 x2 x3 x4 (x5 + 1) 0 0))) ∧ (¬ (g_mi M (a0 + 2) 0) ≤ x7 → (EX9_keyAt M a0 x7) ∧ ∀ v2 : Int32, v2 = (fX9_keyAt M a0 x7) → pX9_isSo N K M a0 v2 (fun v3 => ((v3 = 0 → kp 1 M a0 x1 x2 x3 x4 x5 (x6 + 0) (x7 + 1)) ∧ (¬ v3 = 0 → ∀ v4 : Int32, v4 = (fX9_keyAt M a0 x7) → pX9_has N K M a0 v4 x5 (fun v5 => ((v5 = 0 → kp 1 M a0 x1 x2 x3 x4 x5 (x6 + 0) (x7 + 1)) ∧ (¬ v5 = 0 → kp 1 M a0 x1 x2 x3 x4 x5 (x6 + 1) (x7 + 1)))))))))
def qX9_ask (N K : Nat) (R : Int32 → Prop) : Nat → Nat → gM → Nat → Int32 → Int32 → Int32 → Int32 → Int32 → Int32 → Int32 → Prop
  | 0, _, _, _, _, _, _, _, _, _, _ => False
  | n + 1, h, M, a0, x1, x2, x3, x4, x5, x6, x7 => if h = 0 then pX9_ask_26 N K (qX9_ask N K R n) R M a0 x1 x2 x3 x4 x5 else pX9_ask_45 N K (qX9_ask N K R n) R M a0 x1 x2 x3 x4 x5 x6 x7
def pX9_ask (N K : Nat) (M : gM) (a0 : Nat) (x1 : Int32) (R : Int32 → Prop) : Prop := pX9_ask_0 N K (qX9_ask N K R N) R M a0 x1
def ULX9_ask (X : gX) (d mc ms : Nat) (Q : Option Value → gM → Prop) (N K : Nat) (R : Int32 → Prop) (n : Nat) : Prop := (∀ (M : gM) (a0 : Nat) (x1 : Int32) (x2 : Int32) (x3 : Int32) (x4 : Int32) (x5 : Int32) (x6 : Int32) (x7 : Int32), Mo M a0 → qX9_ask N K R n 0 M a0 x1 x2 x3 x4 x5 x6 x7 → (∀ (v : Int32), R v → Q (some (.int v)) M) → Go X (d + 5) mc ms kX9_ask Q 26 [(0, .ref a0), (1, .int (x1)), (2, .int (x2)), (3, .int (x3)), (4, .int (x4)), (5, .int (x5))] [] M 0 0) ∧ (∀ (M : gM) (a0 : Nat) (x1 : Int32) (x2 : Int32) (x3 : Int32) (x4 : Int32) (x5 : Int32) (x6 : Int32) (x7 : Int32), Mo M a0 → qX9_ask N K R n 1 M a0 x1 x2 x3 x4 x5 x6 x7 → (∀ (v : Int32), R v → Q (some (.int v)) M) → Go X (d + 5) mc ms kX9_ask Q 45 [(0, .ref a0), (1, .int (x1)), (2, .int (x2)), (3, .int (x3)), (4, .int (x4)), (5, .int (x5)), (6, .int (x6)), (7, .int (x7))] [] M 0 0)
set_option maxRecDepth 10000 in
theorem ulX9_ask {X : gX} {d mc ms : Nat} {Q : Option Value → gM → Prop} {N K : Nat} {R : Int32 → Prop} : ∀ n : Nat, ULX9_ask X d mc ms Q N K R n := by
  intro n
  induction n with
  | zero => exact ⟨fun _ _ _ _ _ _ _ _ _ _ h _ => h.elim, fun _ _ _ _ _ _ _ _ _ _ h _ => h.elim⟩
  | succ n ih =>
    refine ⟨?_, ?_⟩
    · intro M a0 x1 x2 x3 x4 x5 x6 x7 s0 H hR
      rw [qX9_ask, if_pos (show (0 : Nat) = 0 from rfl)] at H
      unfold pX9_ask_26 at H
      refine g_iload 5 28 dX9_ask_26 rfl rfl ?_
      refine g_aload_n 0 29 dX9_ask_28 rfl rfl ?_
      refine g_callV (mc1 := 0) (ms1 := 0) (b := a0) (rest := [.int (x5)]) (av := []) kX9_vertexMany 32 dX9_ask_29 rfl rfl mbX9_123 imX9_vertexMany seX9_vertexMany gcl9.1 s0.1 (Nat.le_of_ble_eq_true rfl) (Nat.zero_le _) (Nat.zero_le _) (tX9_vertexMany s0 ?_)
      show Go X (d + 5) mc ms kX9_ask Q 32 [(0, .ref a0), (1, .int (x1)), (2, .int (x2)), (3, .int (x3)), (4, .int (x4)), (5, .int (x5))] [.int ((fX9_vertexMany M a0)), .int (x5)] M 0 0
      generalize hv1 : (fX9_vertexMany M a0) = v1
      replace H := H v1 hv1.symm
      refine g_icmp_ge 134 35 dX9_ask_32 rfl rfl (fun c1 => ?_) (fun c1 => ?_)
      · skip
        replace H := H.1 c1
        refine g_iload_n 3 135 dX9_ask_134 rfl rfl ?_
        refine g_iconst ((-1)) 136 dX9_ask_135 rfl rfl ?_
        refine g_icmp_eq 143 139 dX9_ask_136 rfl rfl (fun c2 => ?_) (fun c2 => ?_)
        · skip
          replace H := H.1 c2
          refine g_iload_n 3 144 dX9_ask_143 rfl rfl ?_
          refine g_goto 149 dX9_ask_144 rfl ?_
          exact g_iret dX9_ask_149 rfl (Nat.zero_le _) (Nat.zero_le _) (hR _ H)
        · skip
          replace H := H.2 c2
          refine g_iload_n 1 140 dX9_ask_139 rfl rfl ?_
          refine g_if_ne 147 143 dX9_ask_140 rfl rfl (fun c3 => ?_) (fun c3 => ?_)
          · skip
            replace H := H.1 c3
            refine g_iload 4 149 dX9_ask_147 rfl rfl ?_
            exact g_iret dX9_ask_149 rfl (Nat.zero_le _) (Nat.zero_le _) (hR _ H)
          · skip
            replace H := H.2 c3
            refine g_iload_n 3 144 dX9_ask_143 rfl rfl ?_
            refine g_goto 149 dX9_ask_144 rfl ?_
            exact g_iret dX9_ask_149 rfl (Nat.zero_le _) (Nat.zero_le _) (hR _ H)
      · skip
        replace H := H.2 c1
        refine g_iload_n 2 36 dX9_ask_35 rfl rfl ?_
        refine g_if_le 134 39 dX9_ask_36 rfl rfl (fun c4 => ?_) (fun c4 => ?_)
        · skip
          replace H := H.1 c4
          refine g_iload_n 3 135 dX9_ask_134 rfl rfl ?_
          refine g_iconst ((-1)) 136 dX9_ask_135 rfl rfl ?_
          refine g_icmp_eq 143 139 dX9_ask_136 rfl rfl (fun c5 => ?_) (fun c5 => ?_)
          · skip
            replace H := H.1 c5
            refine g_iload_n 3 144 dX9_ask_143 rfl rfl ?_
            refine g_goto 149 dX9_ask_144 rfl ?_
            exact g_iret dX9_ask_149 rfl (Nat.zero_le _) (Nat.zero_le _) (hR _ H)
          · skip
            replace H := H.2 c5
            refine g_iload_n 1 140 dX9_ask_139 rfl rfl ?_
            refine g_if_ne 147 143 dX9_ask_140 rfl rfl (fun c6 => ?_) (fun c6 => ?_)
            · skip
              replace H := H.1 c6
              refine g_iload 4 149 dX9_ask_147 rfl rfl ?_
              exact g_iret dX9_ask_149 rfl (Nat.zero_le _) (Nat.zero_le _) (hR _ H)
            · skip
              replace H := H.2 c6
              refine g_iload_n 3 144 dX9_ask_143 rfl rfl ?_
              refine g_goto 149 dX9_ask_144 rfl ?_
              exact g_iret dX9_ask_149 rfl (Nat.zero_le _) (Nat.zero_le _) (hR _ H)
        · skip
          replace H := H.2 c4
          refine g_iconst (0) 40 dX9_ask_39 rfl rfl ?_
          refine g_istore 42 [(6, .int (0)), (0, .ref a0), (1, .int (x1)), (2, .int (x2)), (3, .int (x3)), (4, .int (x4)), (5, .int (x5))] dX9_ask_40 rfl (Nat.le_of_ble_eq_true rfl) rfl ?_
          refine g_iconst (0) 43 dX9_ask_42 rfl rfl ?_
          refine g_istore 45 [(7, .int (0)), (6, .int (0)), (0, .ref a0), (1, .int (x1)), (2, .int (x2)), (3, .int (x3)), (4, .int (x4)), (5, .int (x5))] dX9_ask_43 rfl (Nat.le_of_ble_eq_true rfl) rfl ?_
          exact g_sub [2, 3, 4, 5, 6, 7, 1, 0] _ rfl (ih.2 M a0 x1 x2 x3 x4 x5 0 0 s0 H (fun v r => hR v r))
    · intro M a0 x1 x2 x3 x4 x5 x6 x7 s0 H hR
      rw [qX9_ask, if_neg (show ¬ (1 : Nat) = 0 by decide)] at H
      unfold pX9_ask_45 at H
      refine g_iload 7 47 dX9_ask_45 rfl rfl ?_
      refine g_aload_n 0 48 dX9_ask_47 rfl rfl ?_
      refine g_getR 51 (a0 + 2) dX9_ask_48 rfl flX9_28 s0.1 s0.2.2.2.1 ?_
      refine g_iconst (0) 52 dX9_ask_51 rfl rfl ?_
      refine h_iaload 53 0 dX9_ask_52 rfl rfl s0.2.2.2.2.1 (vp_lit rfl) ?_
      refine g_icmp_ge 100 56 dX9_ask_53 rfl rfl (fun c1 => ?_) (fun c1 => ?_)
      · skip
        replace H := H.1 c1
        refine g_iload 6 102 dX9_ask_100 rfl rfl ?_
        refine g_iload_n 2 103 dX9_ask_102 rfl rfl ?_
        refine g_iload 6 105 dX9_ask_103 rfl rfl ?_
        refine g_isub 106 dX9_ask_105 rfl ?_
        refine g_callS (mc1 := 0) (ms1 := 0) (rest := []) (av := [.int (x6), .int ((x2 - x6))]) kX9_greater 109 dX9_ask_106 rfl rfl mbX9_431 smX9_greater (Nat.le_of_ble_eq_true rfl) (Nat.zero_le _) (Nat.zero_le _) (tX9_greater  ?_)
        show Go X (d + 5) mc ms kX9_ask Q 109 [(0, .ref a0), (1, .int (x1)), (2, .int (x2)), (3, .int (x3)), (4, .int (x4)), (5, .int (x5)), (6, .int (x6)), (7, .int (x7))] [.int ((fX9_greater x6 (x2 - x6)))] M 0 0
        generalize hv1 : (fX9_greater x6 (x2 - x6)) = v1
        replace H := H v1 hv1.symm
        refine g_istore 111 [(7, .int (v1)), (0, .ref a0), (1, .int (x1)), (2, .int (x2)), (3, .int (x3)), (4, .int (x4)), (5, .int (x5)), (6, .int (x6))] dX9_ask_109 rfl (Nat.le_of_ble_eq_true rfl) rfl ?_
        refine g_iload 0 113 dX9_ask_111 rfl rfl ?_
        refine g_iload 5 115 dX9_ask_113 rfl rfl ?_
        refine g_icmp_lt 121 118 dX9_ask_115 rfl rfl (fun c2 => ?_) (fun c2 => ?_)
        · skip
          replace H := H.1 c2
          refine g_iload 0 123 dX9_ask_121 rfl rfl ?_
          refine g_istore 125 [(4, .int (v1)), (7, .int (v1)), (0, .ref a0), (1, .int (x1)), (2, .int (x2)), (3, .int (x3)), (5, .int (x5)), (6, .int (x6))] dX9_ask_123 rfl (Nat.le_of_ble_eq_true rfl) rfl ?_
          refine g_iload 6 127 dX9_ask_125 rfl rfl ?_
          refine g_istore_n 128 [(3, .int (x5)), (4, .int (v1)), (7, .int (v1)), (0, .ref a0), (1, .int (x1)), (2, .int (x2)), (5, .int (x5)), (6, .int (x6))] dX9_ask_127 rfl (Nat.le_of_ble_eq_true rfl) rfl ?_
          refine g_iinc _ 6 131 [(5, .int ((x5 + 1))), (3, .int (x5)), (4, .int (v1)), (7, .int (v1)), (0, .ref a0), (1, .int (x1)), (2, .int (x2)), (6, .int (x6))] dX9_ask_128 rfl rfl rfl (Nat.le_of_ble_eq_true rfl) rfl ?_
          refine g_goto 26 dX9_ask_131 rfl ?_
          exact g_sub [4, 5, 6, 1, 2, 0] _ rfl (ih.1 M a0 x1 x2 x5 v1 (x5 + 1) 0 0 s0 H (fun v r => hR v r))
        · skip
          replace H := H.2 c2
          refine g_goto 128 dX9_ask_118 rfl ?_
          refine g_iinc _ 6 131 [(5, .int ((x5 + 1))), (7, .int (v1)), (0, .ref a0), (1, .int (x1)), (2, .int (x2)), (3, .int (x3)), (4, .int (x4)), (6, .int (x6))] dX9_ask_128 rfl rfl rfl (Nat.le_of_ble_eq_true rfl) rfl ?_
          refine g_goto 26 dX9_ask_131 rfl ?_
          exact g_sub [2, 3, 4, 5, 6, 0] _ rfl (ih.1 M a0 x1 x2 x3 x4 (x5 + 1) 0 0 s0 H (fun v r => hR v r))
      · skip
        replace H := H.2 c1
        refine g_iload 6 58 dX9_ask_56 rfl rfl ?_
        refine g_aload_n 0 59 dX9_ask_58 rfl rfl ?_
        refine g_aload_n 0 60 dX9_ask_59 rfl rfl ?_
        refine g_iload 7 62 dX9_ask_60 rfl rfl ?_
        obtain ⟨b1, H⟩ := H
        refine g_callV (mc1 := 0) (ms1 := 0) (b := a0) (rest := [.ref a0, .int (x6)]) (av := [.int (x7)]) kX9_keyAt 65 dX9_ask_62 rfl rfl mbX9_109 imX9_keyAt seX9_keyAt gcl9.1 s0.1 (Nat.le_of_ble_eq_true rfl) (Nat.zero_le _) (Nat.zero_le _) (tX9_keyAt s0 b1 ?_)
        show Go X (d + 5) mc ms kX9_ask Q 65 [(0, .ref a0), (1, .int (x1)), (2, .int (x2)), (3, .int (x3)), (4, .int (x4)), (5, .int (x5)), (6, .int (x6)), (7, .int (x7))] [.int ((fX9_keyAt M a0 x7)), .ref a0, .int (x6)] M 0 0
        generalize hv2 : (fX9_keyAt M a0 x7) = v2
        replace H := H v2 hv2.symm
        refine g_callV (mc1 := 0) (ms1 := 0) (b := a0) (rest := [.int (x6)]) (av := [.int (v2)]) kX9_isSo 68 dX9_ask_65 rfl rfl mbX9_425 imX9_isSo seX9_isSo gcl9.1 s0.1 (Nat.le_of_ble_eq_true rfl) (Nat.zero_le _) (Nat.zero_le _) (uX9_isSo (N := N) (K := K) s0 H (fun v3 H => ?_))
        show Go X (d + 5) mc ms kX9_ask Q 68 [(0, .ref a0), (1, .int (x1)), (2, .int (x2)), (3, .int (x3)), (4, .int (x4)), (5, .int (x5)), (6, .int (x6)), (7, .int (x7))] [.int (v3), .int (x6)] M 0 0
        refine g_if_eq 90 71 dX9_ask_68 rfl rfl (fun c3 => ?_) (fun c3 => ?_)
        · skip
          replace H := H.1 c3
          refine g_iconst (0) 91 dX9_ask_90 rfl rfl ?_
          refine g_iadd 92 dX9_ask_91 rfl ?_
          refine g_istore 94 [(6, .int ((x6 + 0))), (0, .ref a0), (1, .int (x1)), (2, .int (x2)), (3, .int (x3)), (4, .int (x4)), (5, .int (x5)), (7, .int (x7))] dX9_ask_92 rfl (Nat.le_of_ble_eq_true rfl) rfl ?_
          refine g_iinc _ 7 97 [(7, .int ((x7 + 1))), (6, .int ((x6 + 0))), (0, .ref a0), (1, .int (x1)), (2, .int (x2)), (3, .int (x3)), (4, .int (x4)), (5, .int (x5))] dX9_ask_94 rfl rfl rfl (Nat.le_of_ble_eq_true rfl) rfl ?_
          refine g_goto 45 dX9_ask_97 rfl ?_
          exact g_sub [2, 3, 4, 5, 6, 7, 1, 0] _ rfl (ih.2 M a0 x1 x2 x3 x4 x5 (x6 + 0) (x7 + 1) s0 H (fun v r => hR v r))
        · skip
          replace H := H.2 c3
          refine g_aload_n 0 72 dX9_ask_71 rfl rfl ?_
          refine g_aload_n 0 73 dX9_ask_72 rfl rfl ?_
          refine g_iload 7 75 dX9_ask_73 rfl rfl ?_
          refine g_callV (mc1 := 0) (ms1 := 0) (b := a0) (rest := [.ref a0, .int (x6)]) (av := [.int (x7)]) kX9_keyAt 78 dX9_ask_75 rfl rfl mbX9_109 imX9_keyAt seX9_keyAt gcl9.1 s0.1 (Nat.le_of_ble_eq_true rfl) (Nat.zero_le _) (Nat.zero_le _) (tX9_keyAt s0 b1 ?_)
          show Go X (d + 5) mc ms kX9_ask Q 78 [(0, .ref a0), (1, .int (x1)), (2, .int (x2)), (3, .int (x3)), (4, .int (x4)), (5, .int (x5)), (6, .int (x6)), (7, .int (x7))] [.int ((fX9_keyAt M a0 x7)), .ref a0, .int (x6)] M 0 0
          generalize hv4 : (fX9_keyAt M a0 x7) = v4
          replace H := H v4 hv4.symm
          refine g_iload 5 80 dX9_ask_78 rfl rfl ?_
          refine g_callV (mc1 := 0) (ms1 := 0) (b := a0) (rest := [.int (x6)]) (av := [.int (v4), .int (x5)]) kX9_has 83 dX9_ask_80 rfl rfl mbX9_422 imX9_has seX9_has gcl9.1 s0.1 (Nat.le_of_ble_eq_true rfl) (Nat.zero_le _) (Nat.zero_le _) (uX9_has (N := N) (K := K) s0 H (fun v5 H => ?_))
          show Go X (d + 5) mc ms kX9_ask Q 83 [(0, .ref a0), (1, .int (x1)), (2, .int (x2)), (3, .int (x3)), (4, .int (x4)), (5, .int (x5)), (6, .int (x6)), (7, .int (x7))] [.int (v5), .int (x6)] M 0 0
          refine g_if_eq 90 86 dX9_ask_83 rfl rfl (fun c4 => ?_) (fun c4 => ?_)
          · skip
            replace H := H.1 c4
            refine g_iconst (0) 91 dX9_ask_90 rfl rfl ?_
            refine g_iadd 92 dX9_ask_91 rfl ?_
            refine g_istore 94 [(6, .int ((x6 + 0))), (0, .ref a0), (1, .int (x1)), (2, .int (x2)), (3, .int (x3)), (4, .int (x4)), (5, .int (x5)), (7, .int (x7))] dX9_ask_92 rfl (Nat.le_of_ble_eq_true rfl) rfl ?_
            refine g_iinc _ 7 97 [(7, .int ((x7 + 1))), (6, .int ((x6 + 0))), (0, .ref a0), (1, .int (x1)), (2, .int (x2)), (3, .int (x3)), (4, .int (x4)), (5, .int (x5))] dX9_ask_94 rfl rfl rfl (Nat.le_of_ble_eq_true rfl) rfl ?_
            refine g_goto 45 dX9_ask_97 rfl ?_
            exact g_sub [2, 3, 4, 5, 6, 7, 1, 0] _ rfl (ih.2 M a0 x1 x2 x3 x4 x5 (x6 + 0) (x7 + 1) s0 H (fun v r => hR v r))
          · skip
            replace H := H.2 c4
            refine g_iconst (1) 87 dX9_ask_86 rfl rfl ?_
            refine g_goto 91 dX9_ask_87 rfl ?_
            refine g_iadd 92 dX9_ask_91 rfl ?_
            refine g_istore 94 [(6, .int ((x6 + 1))), (0, .ref a0), (1, .int (x1)), (2, .int (x2)), (3, .int (x3)), (4, .int (x4)), (5, .int (x5)), (7, .int (x7))] dX9_ask_92 rfl (Nat.le_of_ble_eq_true rfl) rfl ?_
            refine g_iinc _ 7 97 [(7, .int ((x7 + 1))), (6, .int ((x6 + 1))), (0, .ref a0), (1, .int (x1)), (2, .int (x2)), (3, .int (x3)), (4, .int (x4)), (5, .int (x5))] dX9_ask_94 rfl rfl rfl (Nat.le_of_ble_eq_true rfl) rfl ?_
            refine g_goto 45 dX9_ask_97 rfl ?_
            exact g_sub [2, 3, 4, 5, 6, 7, 1, 0] _ rfl (ih.2 M a0 x1 x2 x3 x4 x5 (x6 + 1) (x7 + 1) s0 H (fun v r => hR v r))
set_option maxRecDepth 10000 in
theorem uX9_ask {N K : Nat} {X : gX} {d mc ms : Nat} {Q : Option Value → gM → Prop} {M : gM} {a0 : Nat} {x1 : Int32} {R : Int32 → Prop} (s0 : Mo M a0) (H : pX9_ask N K M a0 x1 R) (hR : ∀ (v : Int32), R v → Q (some (.int v)) M) : Cn X (d + 5) mc ms kX9_ask [.ref a0, .int (x1)] M Q := by
  have ih := ulX9_ask (X := X) (d := d) (mc := mc) (ms := ms) (Q := Q) (N := N) (K := K) (R := R) N
  unfold pX9_ask pX9_ask_0 at H
  refine g_meth rfl rfl (Nat.le_of_ble_eq_true rfl) rfl ?_
  refine g_iload_n 1 1 dX9_ask_0 rfl rfl ?_
  refine g_iconst (0) 2 dX9_ask_1 rfl rfl ?_
  refine g_iconst (1) 3 dX9_ask_2 rfl rfl ?_
  refine g_callS (mc1 := 0) (ms1 := 0) (rest := []) (av := [.int (x1), .int (0), .int (1)]) kX9_lies 6 dX9_ask_3 rfl rfl mbX9_18 smX9_lies (Nat.le_of_ble_eq_true rfl) (Nat.zero_le _) (Nat.zero_le _) (tX9_lies  ?_)
  show Go X (d + 5) mc ms kX9_ask Q 6 [(0, .ref a0), (1, .int (x1))] [.int ((fX9_lies x1 0 1))] M 0 0
  generalize hv1 : (fX9_lies x1 0 1) = v1
  replace H := H v1 hv1.symm
  refine g_if_ne 11 9 dX9_ask_6 rfl rfl (fun c1 => ?_) (fun c1 => ?_)
  · skip
    replace H := H.1 c1
    refine g_aload_n 0 12 dX9_ask_11 rfl rfl ?_
    refine g_iconst ((-1)) 13 dX9_ask_12 rfl rfl ?_
    refine g_callV (mc1 := 0) (ms1 := 0) (b := a0) (rest := []) (av := [.int ((-1))]) kX9_canBe 16 dX9_ask_13 rfl rfl mbX9_428 imX9_canBe seX9_canBe gcl9.1 s0.1 (Nat.le_of_ble_eq_true rfl) (Nat.zero_le _) (Nat.zero_le _) (uX9_canBe (N := N) (K := K) s0 H (fun v2 H => ?_))
    show Go X (d + 5) mc ms kX9_ask Q 16 [(0, .ref a0), (1, .int (x1))] [.int (v2)] M 0 0
    refine g_istore_n 17 [(2, .int (v2)), (0, .ref a0), (1, .int (x1))] dX9_ask_16 rfl (Nat.le_of_ble_eq_true rfl) rfl ?_
    refine g_iconst ((-1)) 18 dX9_ask_17 rfl rfl ?_
    refine g_istore_n 19 [(3, .int ((-1))), (2, .int (v2)), (0, .ref a0), (1, .int (x1))] dX9_ask_18 rfl (Nat.le_of_ble_eq_true rfl) rfl ?_
    refine g_ldc (1000000) 21 dX9_ask_19 rfl q6_128 ?_
    refine g_istore 23 [(4, .int (1000000)), (3, .int ((-1))), (2, .int (v2)), (0, .ref a0), (1, .int (x1))] dX9_ask_21 rfl (Nat.le_of_ble_eq_true rfl) rfl ?_
    refine g_iconst (0) 24 dX9_ask_23 rfl rfl ?_
    refine g_istore 26 [(5, .int (0)), (4, .int (1000000)), (3, .int ((-1))), (2, .int (v2)), (0, .ref a0), (1, .int (x1))] dX9_ask_24 rfl (Nat.le_of_ble_eq_true rfl) rfl ?_
    exact g_sub [4, 5, 3, 2, 1, 0] _ rfl (ih.1 M a0 x1 v2 (-1) 1000000 0 0 0 s0 H (fun v r => hR v r))
  · skip
    replace H := H.2 c1
    refine g_iconst ((-1)) 10 dX9_ask_9 rfl rfl ?_
    exact g_iret dX9_ask_10 rfl (Nat.zero_le _) (Nat.zero_le _) (hR _ H)
/-! X9_stopped -/
def pX9_stopped (N K : Nat) (M : gM) (a0 : Nat) (R : Int32 → Prop) : Prop := R (g_mi M a0 40)
set_option maxRecDepth 10000 in
theorem uX9_stopped {N K : Nat} {X : gX} {d mc ms : Nat} {Q : Option Value → gM → Prop} {M : gM} {a0 : Nat} {R : Int32 → Prop} (s0 : Mo M a0) (H : pX9_stopped N K M a0 R) (hR : ∀ (v : Int32), R v → Q (some (.int v)) M) : Cn X d mc ms kX9_stopped [.ref a0] M Q := by
  unfold pX9_stopped at H
  refine g_meth rfl rfl (Nat.le_of_ble_eq_true rfl) rfl ?_
  refine g_aload_n 0 1 dX9_stopped_0 rfl rfl ?_
  refine g_getI 4 dX9_stopped_1 rfl flX9_94 s0.1 ?_
  exact g_iret dX9_stopped_4 rfl (Nat.zero_le _) (Nat.zero_le _) (hR _ H)
/-! X9_drawn -/
def pX9_drawn (N K : Nat) (M : gM) (a0 : Nat) (x1 : Int32) (R : Int32 → Prop) : Prop := (((g_mi M a0 48) = 0 → R (-1)) ∧ (¬ (g_mi M a0 48) = 0 → ∀ v1 : Int32, v1 = (fX9_lies x1 0 39) → ((v1 = 0 → R (-1)) ∧ (¬ v1 = 0 → (vp_in (x1) 40) ∧ R (g_mi M (a0 + 23) (x1).toNatClampNeg)))))
set_option maxRecDepth 10000 in
theorem uX9_drawn {N K : Nat} {X : gX} {d mc ms : Nat} {Q : Option Value → gM → Prop} {M : gM} {a0 : Nat} {x1 : Int32} {R : Int32 → Prop} (s0 : Mo M a0) (H : pX9_drawn N K M a0 x1 R) (hR : ∀ (v : Int32), R v → Q (some (.int v)) M) : Cn X (d + 1) mc ms kX9_drawn [.ref a0, .int (x1)] M Q := by
  unfold pX9_drawn at H
  refine g_meth rfl rfl (Nat.le_of_ble_eq_true rfl) rfl ?_
  refine g_aload_n 0 1 dX9_drawn_0 rfl rfl ?_
  refine g_getI 4 dX9_drawn_1 rfl flX9_486 s0.1 ?_
  refine g_if_eq 26 7 dX9_drawn_4 rfl rfl (fun c1 => ?_) (fun c1 => ?_)
  · skip
    replace H := H.1 c1
    refine g_iconst ((-1)) 27 dX9_drawn_26 rfl rfl ?_
    exact g_iret dX9_drawn_27 rfl (Nat.zero_le _) (Nat.zero_le _) (hR _ H)
  · skip
    replace H := H.2 c1
    refine g_iload_n 1 8 dX9_drawn_7 rfl rfl ?_
    refine g_iconst (0) 9 dX9_drawn_8 rfl rfl ?_
    refine g_bipush (39) 11 dX9_drawn_9 rfl rfl ?_
    refine g_callS (mc1 := 0) (ms1 := 0) (rest := []) (av := [.int (x1), .int (0), .int (39)]) kX9_lies 14 dX9_drawn_11 rfl rfl mbX9_18 smX9_lies (Nat.le_of_ble_eq_true rfl) (Nat.zero_le _) (Nat.zero_le _) (tX9_lies  ?_)
    show Go X (d + 1) mc ms kX9_drawn Q 14 [(0, .ref a0), (1, .int (x1))] [.int ((fX9_lies x1 0 39))] M 0 0
    generalize hv1 : (fX9_lies x1 0 39) = v1
    replace H := H v1 hv1.symm
    refine g_if_eq 26 17 dX9_drawn_14 rfl rfl (fun c2 => ?_) (fun c2 => ?_)
    · skip
      replace H := H.1 c2
      refine g_iconst ((-1)) 27 dX9_drawn_26 rfl rfl ?_
      exact g_iret dX9_drawn_27 rfl (Nat.zero_le _) (Nat.zero_le _) (hR _ H)
    · skip
      replace H := H.2 c2
      refine g_aload_n 0 18 dX9_drawn_17 rfl rfl ?_
      refine g_getR 21 (a0 + 23) dX9_drawn_18 rfl flX9_100 s0.1 s0.2.2.2.2.2.2.2.2.2.2.2.2.2.2.2.2.2.2.2.2.2.2.2.2.2.2.2.2.2.2.2.2.2.2.2.2.2.2.2.2.2.2.2.2.2.1 ?_
      refine g_iload_n 1 22 dX9_drawn_21 rfl rfl ?_
      obtain ⟨b1, H⟩ := H
      refine h_iaload 23 (x1).toNatClampNeg dX9_drawn_22 rfl rfl s0.2.2.2.2.2.2.2.2.2.2.2.2.2.2.2.2.2.2.2.2.2.2.2.2.2.2.2.2.2.2.2.2.2.2.2.2.2.2.2.2.2.2.2.2.2.2 b1 ?_
      refine g_goto 27 dX9_drawn_23 rfl ?_
      exact g_iret dX9_drawn_27 rfl (Nat.zero_le _) (Nat.zero_le _) (hR _ H)
/-! X9_count -/
def pX9_count (N K : Nat) (M : gM) (a0 : Nat) (x1 : Int32) (R : Int32 → Prop) : Prop := ((x1 = 0 → R (g_mi M (a0 + 2) 0)) ∧ (¬ x1 = 0 → ((x1 = 1 → R (g_mi M (a0 + 2) 31)) ∧ (¬ x1 = 1 → ((x1 = 2 → R (g_mi M (a0 + 2) 32)) ∧ (¬ x1 = 2 → ((x1 = 3 → R (g_mi M (a0 + 2) 202)) ∧ (¬ x1 = 3 → ((x1 = 4 → R (g_mi M (a0 + 2) 203)) ∧ (¬ x1 = 4 → ((x1 = 5 → R (g_mi M a0 38)) ∧ (¬ x1 = 5 → ((x1 = 6 → R (g_mi M a0 13)) ∧ (¬ x1 = 6 → ((x1 = 7 → (EX9_refusals M a0 (x1 - 7)) ∧ ∀ v1 : Int32, v1 = (fX9_refusals M a0 (x1 - 7)) → R v1) ∧ (¬ x1 = 7 → ((x1 = 8 → (EX9_refusals M a0 (x1 - 7)) ∧ ∀ v2 : Int32, v2 = (fX9_refusals M a0 (x1 - 7)) → R v2) ∧ (¬ x1 = 8 → ((x1 = 9 → (EX9_refusals M a0 (x1 - 7)) ∧ ∀ v3 : Int32, v3 = (fX9_refusals M a0 (x1 - 7)) → R v3) ∧ (¬ x1 = 9 → ((x1 = 10 → (EX9_refusals M a0 (x1 - 7)) ∧ ∀ v4 : Int32, v4 = (fX9_refusals M a0 (x1 - 7)) → R v4) ∧ (¬ x1 = 10 → ((x1 = 11 → (EX9_refusals M a0 (x1 - 7)) ∧ ∀ v5 : Int32, v5 = (fX9_refusals M a0 (x1 - 7)) → R v5) ∧ (¬ x1 = 11 → ((x1 = 12 → R (g_mi M (a0 + 2) 204)) ∧ (¬ x1 = 12 → ((x1 = 13 → ∀ v6 : Int32, v6 = (fX9_termAt (x1 - 13)) → (vp_in (v6) 5812) ∧ R (g_mi M (a0 + 2) (v6).toNatClampNeg)) ∧ (¬ x1 = 13 → ((x1 = 14 → ∀ v7 : Int32, v7 = (fX9_termAt (x1 - 13)) → (vp_in (v7) 5812) ∧ R (g_mi M (a0 + 2) (v7).toNatClampNeg)) ∧ (¬ x1 = 14 → ((x1 = 15 → ∀ v8 : Int32, v8 = (fX9_termAt (x1 - 13)) → (vp_in (v8) 5812) ∧ R (g_mi M (a0 + 2) (v8).toNatClampNeg)) ∧ (¬ x1 = 15 → R (-1)))))))))))))))))))))))))))))))))
set_option maxRecDepth 10000 in
theorem uX9_count {N K : Nat} {X : gX} {d mc ms : Nat} {Q : Option Value → gM → Prop} {M : gM} {a0 : Nat} {x1 : Int32} {R : Int32 → Prop} (s0 : Mo M a0) (H : pX9_count N K M a0 x1 R) (hR : ∀ (v : Int32), R v → Q (some (.int v)) M) : Cn X (d + 1) mc ms kX9_count [.ref a0, .int (x1)] M Q := by
  unfold pX9_count at H
  refine g_meth rfl rfl (Nat.le_of_ble_eq_true rfl) rfl ?_
  refine g_iload_n 1 1 dX9_count_0 rfl rfl ?_
  by_cases c1 : x1 = 0
  · refine h_tabIn (0) 80 dX9_count_1 c1 (by decide) (by decide) rfl rfl ?_
    replace H := H.1 c1
    refine g_aload_n 0 81 dX9_count_80 rfl rfl ?_
    refine g_getR 84 (a0 + 2) dX9_count_81 rfl flX9_28 s0.1 s0.2.2.2.1 ?_
    refine g_iconst (0) 85 dX9_count_84 rfl rfl ?_
    refine h_iaload 86 0 dX9_count_85 rfl rfl s0.2.2.2.2.1 (vp_lit rfl) ?_
    exact g_iret dX9_count_86 rfl (Nat.zero_le _) (Nat.zero_le _) (hR _ H)
  replace H := H.2 c1
  by_cases c2 : x1 = 1
  · refine h_tabIn (1) 87 dX9_count_1 c2 (by decide) (by decide) rfl rfl ?_
    replace H := H.1 c2
    refine g_aload_n 0 88 dX9_count_87 rfl rfl ?_
    refine g_getR 91 (a0 + 2) dX9_count_88 rfl flX9_28 s0.1 s0.2.2.2.1 ?_
    refine g_bipush (31) 93 dX9_count_91 rfl rfl ?_
    refine h_iaload 94 31 dX9_count_93 rfl rfl s0.2.2.2.2.1 (vp_lit rfl) ?_
    exact g_iret dX9_count_94 rfl (Nat.zero_le _) (Nat.zero_le _) (hR _ H)
  replace H := H.2 c2
  by_cases c3 : x1 = 2
  · refine h_tabIn (2) 95 dX9_count_1 c3 (by decide) (by decide) rfl rfl ?_
    replace H := H.1 c3
    refine g_aload_n 0 96 dX9_count_95 rfl rfl ?_
    refine g_getR 99 (a0 + 2) dX9_count_96 rfl flX9_28 s0.1 s0.2.2.2.1 ?_
    refine g_bipush (32) 101 dX9_count_99 rfl rfl ?_
    refine h_iaload 102 32 dX9_count_101 rfl rfl s0.2.2.2.2.1 (vp_lit rfl) ?_
    exact g_iret dX9_count_102 rfl (Nat.zero_le _) (Nat.zero_le _) (hR _ H)
  replace H := H.2 c3
  by_cases c4 : x1 = 3
  · refine h_tabIn (3) 103 dX9_count_1 c4 (by decide) (by decide) rfl rfl ?_
    replace H := H.1 c4
    refine g_aload_n 0 104 dX9_count_103 rfl rfl ?_
    refine g_getR 107 (a0 + 2) dX9_count_104 rfl flX9_28 s0.1 s0.2.2.2.1 ?_
    refine g_sipush (202) 110 dX9_count_107 rfl rfl ?_
    refine h_iaload 111 202 dX9_count_110 rfl rfl s0.2.2.2.2.1 (vp_lit rfl) ?_
    exact g_iret dX9_count_111 rfl (Nat.zero_le _) (Nat.zero_le _) (hR _ H)
  replace H := H.2 c4
  by_cases c5 : x1 = 4
  · refine h_tabIn (4) 112 dX9_count_1 c5 (by decide) (by decide) rfl rfl ?_
    replace H := H.1 c5
    refine g_aload_n 0 113 dX9_count_112 rfl rfl ?_
    refine g_getR 116 (a0 + 2) dX9_count_113 rfl flX9_28 s0.1 s0.2.2.2.1 ?_
    refine g_sipush (203) 119 dX9_count_116 rfl rfl ?_
    refine h_iaload 120 203 dX9_count_119 rfl rfl s0.2.2.2.2.1 (vp_lit rfl) ?_
    exact g_iret dX9_count_120 rfl (Nat.zero_le _) (Nat.zero_le _) (hR _ H)
  replace H := H.2 c5
  by_cases c6 : x1 = 5
  · refine h_tabIn (5) 121 dX9_count_1 c6 (by decide) (by decide) rfl rfl ?_
    replace H := H.1 c6
    refine g_aload_n 0 122 dX9_count_121 rfl rfl ?_
    refine g_getI 125 dX9_count_122 rfl flX9_11 s0.1 ?_
    exact g_iret dX9_count_125 rfl (Nat.zero_le _) (Nat.zero_le _) (hR _ H)
  replace H := H.2 c6
  by_cases c7 : x1 = 6
  · refine h_tabIn (6) 126 dX9_count_1 c7 (by decide) (by decide) rfl rfl ?_
    replace H := H.1 c7
    refine g_aload_n 0 127 dX9_count_126 rfl rfl ?_
    refine g_getI 130 dX9_count_127 rfl flX9_157 s0.1 ?_
    exact g_iret dX9_count_130 rfl (Nat.zero_le _) (Nat.zero_le _) (hR _ H)
  replace H := H.2 c7
  by_cases c8 : x1 = 7
  · refine h_tabIn (7) 131 dX9_count_1 c8 (by decide) (by decide) rfl rfl ?_
    replace H := H.1 c8
    refine g_aload_n 0 132 dX9_count_131 rfl rfl ?_
    refine g_iload_n 1 133 dX9_count_132 rfl rfl ?_
    refine g_bipush (7) 135 dX9_count_133 rfl rfl ?_
    refine g_isub 136 dX9_count_135 rfl ?_
    obtain ⟨b1, H⟩ := H
    refine g_callV (mc1 := 0) (ms1 := 0) (b := a0) (rest := []) (av := [.int ((x1 - 7))]) kX9_refusals 139 dX9_count_136 rfl rfl mbX9_492 imX9_refusals seX9_refusals gcl9.1 s0.1 (Nat.le_of_ble_eq_true rfl) (Nat.zero_le _) (Nat.zero_le _) (tX9_refusals s0 b1 ?_)
    show Go X (d + 1) mc ms kX9_count Q 139 [(0, .ref a0), (1, .int (x1))] [.int ((fX9_refusals M a0 (x1 - 7)))] M 0 0
    generalize hv1 : (fX9_refusals M a0 (x1 - 7)) = v1
    replace H := H v1 hv1.symm
    exact g_iret dX9_count_139 rfl (Nat.zero_le _) (Nat.zero_le _) (hR _ H)
  replace H := H.2 c8
  by_cases c9 : x1 = 8
  · refine h_tabIn (8) 131 dX9_count_1 c9 (by decide) (by decide) rfl rfl ?_
    replace H := H.1 c9
    refine g_aload_n 0 132 dX9_count_131 rfl rfl ?_
    refine g_iload_n 1 133 dX9_count_132 rfl rfl ?_
    refine g_bipush (7) 135 dX9_count_133 rfl rfl ?_
    refine g_isub 136 dX9_count_135 rfl ?_
    obtain ⟨b2, H⟩ := H
    refine g_callV (mc1 := 0) (ms1 := 0) (b := a0) (rest := []) (av := [.int ((x1 - 7))]) kX9_refusals 139 dX9_count_136 rfl rfl mbX9_492 imX9_refusals seX9_refusals gcl9.1 s0.1 (Nat.le_of_ble_eq_true rfl) (Nat.zero_le _) (Nat.zero_le _) (tX9_refusals s0 b2 ?_)
    show Go X (d + 1) mc ms kX9_count Q 139 [(0, .ref a0), (1, .int (x1))] [.int ((fX9_refusals M a0 (x1 - 7)))] M 0 0
    generalize hv2 : (fX9_refusals M a0 (x1 - 7)) = v2
    replace H := H v2 hv2.symm
    exact g_iret dX9_count_139 rfl (Nat.zero_le _) (Nat.zero_le _) (hR _ H)
  replace H := H.2 c9
  by_cases c10 : x1 = 9
  · refine h_tabIn (9) 131 dX9_count_1 c10 (by decide) (by decide) rfl rfl ?_
    replace H := H.1 c10
    refine g_aload_n 0 132 dX9_count_131 rfl rfl ?_
    refine g_iload_n 1 133 dX9_count_132 rfl rfl ?_
    refine g_bipush (7) 135 dX9_count_133 rfl rfl ?_
    refine g_isub 136 dX9_count_135 rfl ?_
    obtain ⟨b3, H⟩ := H
    refine g_callV (mc1 := 0) (ms1 := 0) (b := a0) (rest := []) (av := [.int ((x1 - 7))]) kX9_refusals 139 dX9_count_136 rfl rfl mbX9_492 imX9_refusals seX9_refusals gcl9.1 s0.1 (Nat.le_of_ble_eq_true rfl) (Nat.zero_le _) (Nat.zero_le _) (tX9_refusals s0 b3 ?_)
    show Go X (d + 1) mc ms kX9_count Q 139 [(0, .ref a0), (1, .int (x1))] [.int ((fX9_refusals M a0 (x1 - 7)))] M 0 0
    generalize hv3 : (fX9_refusals M a0 (x1 - 7)) = v3
    replace H := H v3 hv3.symm
    exact g_iret dX9_count_139 rfl (Nat.zero_le _) (Nat.zero_le _) (hR _ H)
  replace H := H.2 c10
  by_cases c11 : x1 = 10
  · refine h_tabIn (10) 131 dX9_count_1 c11 (by decide) (by decide) rfl rfl ?_
    replace H := H.1 c11
    refine g_aload_n 0 132 dX9_count_131 rfl rfl ?_
    refine g_iload_n 1 133 dX9_count_132 rfl rfl ?_
    refine g_bipush (7) 135 dX9_count_133 rfl rfl ?_
    refine g_isub 136 dX9_count_135 rfl ?_
    obtain ⟨b4, H⟩ := H
    refine g_callV (mc1 := 0) (ms1 := 0) (b := a0) (rest := []) (av := [.int ((x1 - 7))]) kX9_refusals 139 dX9_count_136 rfl rfl mbX9_492 imX9_refusals seX9_refusals gcl9.1 s0.1 (Nat.le_of_ble_eq_true rfl) (Nat.zero_le _) (Nat.zero_le _) (tX9_refusals s0 b4 ?_)
    show Go X (d + 1) mc ms kX9_count Q 139 [(0, .ref a0), (1, .int (x1))] [.int ((fX9_refusals M a0 (x1 - 7)))] M 0 0
    generalize hv4 : (fX9_refusals M a0 (x1 - 7)) = v4
    replace H := H v4 hv4.symm
    exact g_iret dX9_count_139 rfl (Nat.zero_le _) (Nat.zero_le _) (hR _ H)
  replace H := H.2 c11
  by_cases c12 : x1 = 11
  · refine h_tabIn (11) 131 dX9_count_1 c12 (by decide) (by decide) rfl rfl ?_
    replace H := H.1 c12
    refine g_aload_n 0 132 dX9_count_131 rfl rfl ?_
    refine g_iload_n 1 133 dX9_count_132 rfl rfl ?_
    refine g_bipush (7) 135 dX9_count_133 rfl rfl ?_
    refine g_isub 136 dX9_count_135 rfl ?_
    obtain ⟨b5, H⟩ := H
    refine g_callV (mc1 := 0) (ms1 := 0) (b := a0) (rest := []) (av := [.int ((x1 - 7))]) kX9_refusals 139 dX9_count_136 rfl rfl mbX9_492 imX9_refusals seX9_refusals gcl9.1 s0.1 (Nat.le_of_ble_eq_true rfl) (Nat.zero_le _) (Nat.zero_le _) (tX9_refusals s0 b5 ?_)
    show Go X (d + 1) mc ms kX9_count Q 139 [(0, .ref a0), (1, .int (x1))] [.int ((fX9_refusals M a0 (x1 - 7)))] M 0 0
    generalize hv5 : (fX9_refusals M a0 (x1 - 7)) = v5
    replace H := H v5 hv5.symm
    exact g_iret dX9_count_139 rfl (Nat.zero_le _) (Nat.zero_le _) (hR _ H)
  replace H := H.2 c12
  by_cases c13 : x1 = 12
  · refine h_tabIn (12) 140 dX9_count_1 c13 (by decide) (by decide) rfl rfl ?_
    replace H := H.1 c13
    refine g_aload_n 0 141 dX9_count_140 rfl rfl ?_
    refine g_getR 144 (a0 + 2) dX9_count_141 rfl flX9_28 s0.1 s0.2.2.2.1 ?_
    refine g_sipush (204) 147 dX9_count_144 rfl rfl ?_
    refine h_iaload 148 204 dX9_count_147 rfl rfl s0.2.2.2.2.1 (vp_lit rfl) ?_
    exact g_iret dX9_count_148 rfl (Nat.zero_le _) (Nat.zero_le _) (hR _ H)
  replace H := H.2 c13
  by_cases c14 : x1 = 13
  · refine h_tabIn (13) 149 dX9_count_1 c14 (by decide) (by decide) rfl rfl ?_
    replace H := H.1 c14
    refine g_aload_n 0 150 dX9_count_149 rfl rfl ?_
    refine g_getR 153 (a0 + 2) dX9_count_150 rfl flX9_28 s0.1 s0.2.2.2.1 ?_
    refine g_iload_n 1 154 dX9_count_153 rfl rfl ?_
    refine g_bipush (13) 156 dX9_count_154 rfl rfl ?_
    refine g_isub 157 dX9_count_156 rfl ?_
    refine g_callS (mc1 := 0) (ms1 := 0) (rest := [.ref (a0 + 2)]) (av := [.int ((x1 - 13))]) kX9_termAt 160 dX9_count_157 rfl rfl mbX9_154 smX9_termAt (Nat.le_of_ble_eq_true rfl) (Nat.zero_le _) (Nat.zero_le _) (tX9_termAt  ?_)
    show Go X (d + 1) mc ms kX9_count Q 160 [(0, .ref a0), (1, .int (x1))] [.int ((fX9_termAt (x1 - 13))), .ref (a0 + 2)] M 0 0
    generalize hv6 : (fX9_termAt (x1 - 13)) = v6
    replace H := H v6 hv6.symm
    obtain ⟨b6, H⟩ := H
    refine h_iaload 161 (v6).toNatClampNeg dX9_count_160 rfl rfl s0.2.2.2.2.1 b6 ?_
    exact g_iret dX9_count_161 rfl (Nat.zero_le _) (Nat.zero_le _) (hR _ H)
  replace H := H.2 c14
  by_cases c15 : x1 = 14
  · refine h_tabIn (14) 149 dX9_count_1 c15 (by decide) (by decide) rfl rfl ?_
    replace H := H.1 c15
    refine g_aload_n 0 150 dX9_count_149 rfl rfl ?_
    refine g_getR 153 (a0 + 2) dX9_count_150 rfl flX9_28 s0.1 s0.2.2.2.1 ?_
    refine g_iload_n 1 154 dX9_count_153 rfl rfl ?_
    refine g_bipush (13) 156 dX9_count_154 rfl rfl ?_
    refine g_isub 157 dX9_count_156 rfl ?_
    refine g_callS (mc1 := 0) (ms1 := 0) (rest := [.ref (a0 + 2)]) (av := [.int ((x1 - 13))]) kX9_termAt 160 dX9_count_157 rfl rfl mbX9_154 smX9_termAt (Nat.le_of_ble_eq_true rfl) (Nat.zero_le _) (Nat.zero_le _) (tX9_termAt  ?_)
    show Go X (d + 1) mc ms kX9_count Q 160 [(0, .ref a0), (1, .int (x1))] [.int ((fX9_termAt (x1 - 13))), .ref (a0 + 2)] M 0 0
    generalize hv7 : (fX9_termAt (x1 - 13)) = v7
    replace H := H v7 hv7.symm
    obtain ⟨b7, H⟩ := H
    refine h_iaload 161 (v7).toNatClampNeg dX9_count_160 rfl rfl s0.2.2.2.2.1 b7 ?_
    exact g_iret dX9_count_161 rfl (Nat.zero_le _) (Nat.zero_le _) (hR _ H)
  replace H := H.2 c15
  by_cases c16 : x1 = 15
  · refine h_tabIn (15) 149 dX9_count_1 c16 (by decide) (by decide) rfl rfl ?_
    replace H := H.1 c16
    refine g_aload_n 0 150 dX9_count_149 rfl rfl ?_
    refine g_getR 153 (a0 + 2) dX9_count_150 rfl flX9_28 s0.1 s0.2.2.2.1 ?_
    refine g_iload_n 1 154 dX9_count_153 rfl rfl ?_
    refine g_bipush (13) 156 dX9_count_154 rfl rfl ?_
    refine g_isub 157 dX9_count_156 rfl ?_
    refine g_callS (mc1 := 0) (ms1 := 0) (rest := [.ref (a0 + 2)]) (av := [.int ((x1 - 13))]) kX9_termAt 160 dX9_count_157 rfl rfl mbX9_154 smX9_termAt (Nat.le_of_ble_eq_true rfl) (Nat.zero_le _) (Nat.zero_le _) (tX9_termAt  ?_)
    show Go X (d + 1) mc ms kX9_count Q 160 [(0, .ref a0), (1, .int (x1))] [.int ((fX9_termAt (x1 - 13))), .ref (a0 + 2)] M 0 0
    generalize hv8 : (fX9_termAt (x1 - 13)) = v8
    replace H := H v8 hv8.symm
    obtain ⟨b8, H⟩ := H
    refine h_iaload 161 (v8).toNatClampNeg dX9_count_160 rfl rfl s0.2.2.2.2.1 b8 ?_
    exact g_iret dX9_count_161 rfl (Nat.zero_le _) (Nat.zero_le _) (hR _ H)
  replace H := H.2 c16
  have tc1 := i_neT c1
  rw [show ((0 : Int32)).toInt = 0 from rfl] at tc1
  have tc2 := i_neT c2
  rw [show ((1 : Int32)).toInt = 1 from rfl] at tc2
  have tc3 := i_neT c3
  rw [show ((2 : Int32)).toInt = 2 from rfl] at tc3
  have tc4 := i_neT c4
  rw [show ((3 : Int32)).toInt = 3 from rfl] at tc4
  have tc5 := i_neT c5
  rw [show ((4 : Int32)).toInt = 4 from rfl] at tc5
  have tc6 := i_neT c6
  rw [show ((5 : Int32)).toInt = 5 from rfl] at tc6
  have tc7 := i_neT c7
  rw [show ((6 : Int32)).toInt = 6 from rfl] at tc7
  have tc8 := i_neT c8
  rw [show ((7 : Int32)).toInt = 7 from rfl] at tc8
  have tc9 := i_neT c9
  rw [show ((8 : Int32)).toInt = 8 from rfl] at tc9
  have tc10 := i_neT c10
  rw [show ((9 : Int32)).toInt = 9 from rfl] at tc10
  have tc11 := i_neT c11
  rw [show ((10 : Int32)).toInt = 10 from rfl] at tc11
  have tc12 := i_neT c12
  rw [show ((11 : Int32)).toInt = 11 from rfl] at tc12
  have tc13 := i_neT c13
  rw [show ((12 : Int32)).toInt = 12 from rfl] at tc13
  have tc14 := i_neT c14
  rw [show ((13 : Int32)).toInt = 13 from rfl] at tc14
  have tc15 := i_neT c15
  rw [show ((14 : Int32)).toInt = 14 from rfl] at tc15
  have tc16 := i_neT c16
  rw [show ((15 : Int32)).toInt = 15 from rfl] at tc16
  refine g_tableOut 162 dX9_count_1 (by omega) rfl ?_
  refine g_iconst ((-1)) 163 dX9_count_162 rfl rfl ?_
  exact g_iret dX9_count_163 rfl (Nat.zero_le _) (Nat.zero_le _) (hR _ H)
/-! X9_status -/
def pX9_status (N K : Nat) (M : gM) (a0 : Nat) (R : Int32 → Prop) : Prop := R (g_mi M a0 0)
set_option maxRecDepth 10000 in
theorem uX9_status {N K : Nat} {X : gX} {d mc ms : Nat} {Q : Option Value → gM → Prop} {M : gM} {a0 : Nat} {R : Int32 → Prop} (s0 : Mo M a0) (H : pX9_status N K M a0 R) (hR : ∀ (v : Int32), R v → Q (some (.int v)) M) : Cn X d mc ms kX9_status [.ref a0] M Q := by
  unfold pX9_status at H
  refine g_meth rfl rfl (Nat.le_of_ble_eq_true rfl) rfl ?_
  refine g_aload_n 0 1 dX9_status_0 rfl rfl ?_
  refine g_getI 4 dX9_status_1 rfl flX9_3 s0.1 ?_
  exact g_iret dX9_status_4 rfl (Nat.zero_le _) (Nat.zero_le _) (hR _ H)
/-! X9_orderValue -/
def pX9_orderValue (N K : Nat) (M : gM) (a0 : Nat) (x1 : Int32) (x2 : Int32) (R : Int32 → Prop) : Prop := ((x1 = 12 → (EX9_isVertex M a0 x2) ∧ ∀ v1 : Int32, v1 = (fX9_isVertex M a0 x2) → ((v1 = 0 → R (-1)) ∧ (¬ v1 = 0 → (EX9_degreeOf N M a0 x2 (g_mi M (a0 + 2) 32)) ∧ ∀ v2 : Int32, v2 = (fX9_degreeOf N M a0 x2 (g_mi M (a0 + 2) 32)) → R v2))) ∧ (¬ x1 = 12 → ((x1 = 13 → R (g_mi M (a0 + 2) 187)) ∧ (¬ x1 = 13 → ((x1 = 14 → R (g_mi M a0 27)) ∧ (¬ x1 = 14 → ((x1 = 15 → R (g_mi M a0 28)) ∧ (¬ x1 = 15 → ((x1 = 16 → R (g_mi M (a0 + 2) 0)) ∧ (¬ x1 = 16 → pX9_found N K M a0 x2 1 (fun v3 => R v3)))))))))))
set_option maxRecDepth 10000 in
theorem uX9_orderValue {N K : Nat} {X : gX} {d mc ms : Nat} {Q : Option Value → gM → Prop} {M : gM} {a0 : Nat} {x1 : Int32} {x2 : Int32} {R : Int32 → Prop} (s0 : Mo M a0) (H : pX9_orderValue N K M a0 x1 x2 R) (hR : ∀ (v : Int32), R v → Q (some (.int v)) M) : Cn X (d + 4) mc ms kX9_orderValue [.ref a0, .int (x1), .int (x2)] M Q := by
  unfold pX9_orderValue at H
  refine g_meth rfl rfl (Nat.le_of_ble_eq_true rfl) rfl ?_
  refine g_iload_n 1 1 dX9_orderValue_0 rfl rfl ?_
  by_cases c1 : x1 = 12
  · refine h_tabIn (12) 36 dX9_orderValue_1 c1 (by decide) (by decide) rfl rfl ?_
    replace H := H.1 c1
    refine g_aload_n 0 37 dX9_orderValue_36 rfl rfl ?_
    refine g_iload_n 2 38 dX9_orderValue_37 rfl rfl ?_
    obtain ⟨b1, H⟩ := H
    refine g_callV (mc1 := 0) (ms1 := 0) (b := a0) (rest := []) (av := [.int (x2)]) kX9_isVertex 41 dX9_orderValue_38 rfl rfl mbX9_137 imX9_isVertex seX9_isVertex gcl9.1 s0.1 (Nat.le_of_ble_eq_true rfl) (Nat.zero_le _) (Nat.zero_le _) (tX9_isVertex s0 b1 ?_)
    show Go X (d + 4) mc ms kX9_orderValue Q 41 [(0, .ref a0), (1, .int (x1)), (2, .int (x2))] [.int ((fX9_isVertex M a0 x2))] M 0 0
    generalize hv1 : (fX9_isVertex M a0 x2) = v1
    replace H := H v1 hv1.symm
    refine g_if_eq 59 44 dX9_orderValue_41 rfl rfl (fun c2 => ?_) (fun c2 => ?_)
    · skip
      replace H := H.1 c2
      refine g_iconst ((-1)) 60 dX9_orderValue_59 rfl rfl ?_
      exact g_iret dX9_orderValue_60 rfl (Nat.zero_le _) (Nat.zero_le _) (hR _ H)
    · skip
      replace H := H.2 c2
      refine g_aload_n 0 45 dX9_orderValue_44 rfl rfl ?_
      refine g_iload_n 2 46 dX9_orderValue_45 rfl rfl ?_
      refine g_aload_n 0 47 dX9_orderValue_46 rfl rfl ?_
      refine g_getR 50 (a0 + 2) dX9_orderValue_47 rfl flX9_28 s0.1 s0.2.2.2.1 ?_
      refine g_bipush (32) 52 dX9_orderValue_50 rfl rfl ?_
      refine h_iaload 53 32 dX9_orderValue_52 rfl rfl s0.2.2.2.2.1 (vp_lit rfl) ?_
      obtain ⟨b2, H⟩ := H
      refine g_callV (mc1 := 0) (ms1 := 0) (b := a0) (rest := []) (av := [.int (x2), .int ((g_mi M (a0 + 2) 32))]) kX9_degreeOf 56 dX9_orderValue_53 rfl rfl mbX9_140 imX9_degreeOf seX9_degreeOf gcl9.1 s0.1 (Nat.le_of_ble_eq_true rfl) (Nat.zero_le _) (Nat.zero_le _) (tX9_degreeOf (N := N) s0 b2 ?_)
      show Go X (d + 4) mc ms kX9_orderValue Q 56 [(0, .ref a0), (1, .int (x1)), (2, .int (x2))] [.int ((fX9_degreeOf N M a0 x2 (g_mi M (a0 + 2) 32)))] M 0 0
      generalize hv2 : (fX9_degreeOf N M a0 x2 (g_mi M (a0 + 2) 32)) = v2
      replace H := H v2 hv2.symm
      refine g_goto 60 dX9_orderValue_56 rfl ?_
      exact g_iret dX9_orderValue_60 rfl (Nat.zero_le _) (Nat.zero_le _) (hR _ H)
  replace H := H.2 c1
  by_cases c3 : x1 = 13
  · refine h_tabIn (13) 61 dX9_orderValue_1 c3 (by decide) (by decide) rfl rfl ?_
    replace H := H.1 c3
    refine g_aload_n 0 62 dX9_orderValue_61 rfl rfl ?_
    refine g_getR 65 (a0 + 2) dX9_orderValue_62 rfl flX9_28 s0.1 s0.2.2.2.1 ?_
    refine g_sipush (187) 68 dX9_orderValue_65 rfl rfl ?_
    refine h_iaload 69 187 dX9_orderValue_68 rfl rfl s0.2.2.2.2.1 (vp_lit rfl) ?_
    exact g_iret dX9_orderValue_69 rfl (Nat.zero_le _) (Nat.zero_le _) (hR _ H)
  replace H := H.2 c3
  by_cases c4 : x1 = 14
  · refine h_tabIn (14) 70 dX9_orderValue_1 c4 (by decide) (by decide) rfl rfl ?_
    replace H := H.1 c4
    refine g_aload_n 0 71 dX9_orderValue_70 rfl rfl ?_
    refine g_getI 74 dX9_orderValue_71 rfl flX9_305 s0.1 ?_
    exact g_iret dX9_orderValue_74 rfl (Nat.zero_le _) (Nat.zero_le _) (hR _ H)
  replace H := H.2 c4
  by_cases c5 : x1 = 15
  · refine h_tabIn (15) 75 dX9_orderValue_1 c5 (by decide) (by decide) rfl rfl ?_
    replace H := H.1 c5
    refine g_aload_n 0 76 dX9_orderValue_75 rfl rfl ?_
    refine g_getI 79 dX9_orderValue_76 rfl flX9_308 s0.1 ?_
    exact g_iret dX9_orderValue_79 rfl (Nat.zero_le _) (Nat.zero_le _) (hR _ H)
  replace H := H.2 c5
  by_cases c6 : x1 = 16
  · refine h_tabIn (16) 80 dX9_orderValue_1 c6 (by decide) (by decide) rfl rfl ?_
    replace H := H.1 c6
    refine g_aload_n 0 81 dX9_orderValue_80 rfl rfl ?_
    refine g_getR 84 (a0 + 2) dX9_orderValue_81 rfl flX9_28 s0.1 s0.2.2.2.1 ?_
    refine g_iconst (0) 85 dX9_orderValue_84 rfl rfl ?_
    refine h_iaload 86 0 dX9_orderValue_85 rfl rfl s0.2.2.2.2.1 (vp_lit rfl) ?_
    exact g_iret dX9_orderValue_86 rfl (Nat.zero_le _) (Nat.zero_le _) (hR _ H)
  replace H := H.2 c6
  have tc1 := i_neT c1
  rw [show ((12 : Int32)).toInt = 12 from rfl] at tc1
  have tc3 := i_neT c3
  rw [show ((13 : Int32)).toInt = 13 from rfl] at tc3
  have tc4 := i_neT c4
  rw [show ((14 : Int32)).toInt = 14 from rfl] at tc4
  have tc5 := i_neT c5
  rw [show ((15 : Int32)).toInt = 15 from rfl] at tc5
  have tc6 := i_neT c6
  rw [show ((16 : Int32)).toInt = 16 from rfl] at tc6
  refine g_tableOut 87 dX9_orderValue_1 (by omega) rfl ?_
  refine g_aload_n 0 88 dX9_orderValue_87 rfl rfl ?_
  refine g_iload_n 2 89 dX9_orderValue_88 rfl rfl ?_
  refine g_iconst (1) 90 dX9_orderValue_89 rfl rfl ?_
  refine g_callV (mc1 := 0) (ms1 := 0) (b := a0) (rest := []) (av := [.int (x2), .int (1)]) kX9_found 93 dX9_orderValue_90 rfl rfl mbX9_311 imX9_found seX9_found gcl9.1 s0.1 (Nat.le_of_ble_eq_true rfl) (Nat.zero_le _) (Nat.zero_le _) (uX9_found (N := N) (K := K) s0 H (fun v3 H => ?_))
  show Go X (d + 4) mc ms kX9_orderValue Q 93 [(0, .ref a0), (1, .int (x1)), (2, .int (x2))] [.int (v3)] M 0 0
  exact g_iret dX9_orderValue_93 rfl (Nat.zero_le _) (Nat.zero_le _) (hR _ H)
/-! X9_table -/
def pX9_table (N K : Nat) (M : gM) (a0 : Nat) (x1 : Int32) (R : Int32 → Prop) : Prop := ((¬ (g_mi M (a0 + 2) 33) = 0 → ((x1 = 0 → R (g_mi M (a0 + 2) 34)) ∧ (¬ x1 = 0 → ((x1 = 1 → R (g_mi M (a0 + 2) 35)) ∧ (¬ x1 = 1 → ((x1 = 2 → R (g_mi M (a0 + 2) 36)) ∧ (¬ x1 = 2 → ((x1 = 3 → pX9_signedBelow N K M a0 (3 * (g_mi M (a0 + 2) 34)) (fun v1 => R v1)) ∧ (¬ x1 = 3 → pX9_signOrByte N K M a0 x1 (3 * (g_mi M (a0 + 2) 34)) (fun v2 => R v2)))))))))) ∧ ((g_mi M (a0 + 2) 33) = 0 → R (-1)))
set_option maxRecDepth 10000 in
theorem uX9_table {N K : Nat} {X : gX} {d mc ms : Nat} {Q : Option Value → gM → Prop} {M : gM} {a0 : Nat} {x1 : Int32} {R : Int32 → Prop} (s0 : Mo M a0) (H : pX9_table N K M a0 x1 R) (hR : ∀ (v : Int32), R v → Q (some (.int v)) M) : Cn X (d + 2) mc ms kX9_table [.ref a0, .int (x1)] M Q := by
  unfold pX9_table at H
  refine g_meth rfl rfl (Nat.le_of_ble_eq_true rfl) rfl ?_
  refine g_aload_n 0 1 dX9_table_0 rfl rfl ?_
  refine g_getR 4 (a0 + 2) dX9_table_1 rfl flX9_28 s0.1 s0.2.2.2.1 ?_
  refine g_bipush (33) 6 dX9_table_4 rfl rfl ?_
  refine h_iaload 7 33 dX9_table_6 rfl rfl s0.2.2.2.2.1 (vp_lit rfl) ?_
  refine g_if_ne 12 10 dX9_table_7 rfl rfl (fun c1 => ?_) (fun c1 => ?_)
  · skip
    replace H := H.1 c1
    refine g_iconst (3) 13 dX9_table_12 rfl rfl ?_
    refine g_aload_n 0 14 dX9_table_13 rfl rfl ?_
    refine g_getR 17 (a0 + 2) dX9_table_14 rfl flX9_28 s0.1 s0.2.2.2.1 ?_
    refine g_bipush (34) 19 dX9_table_17 rfl rfl ?_
    refine h_iaload 20 34 dX9_table_19 rfl rfl s0.2.2.2.2.1 (vp_lit rfl) ?_
    refine g_imul 21 dX9_table_20 rfl ?_
    refine g_istore_n 22 [(2, .int ((3 * (g_mi M (a0 + 2) 34)))), (0, .ref a0), (1, .int (x1))] dX9_table_21 rfl (Nat.le_of_ble_eq_true rfl) rfl ?_
    refine g_iload_n 2 23 dX9_table_22 rfl rfl ?_
    by_cases c2 : x1 = 0
    · refine h_tabIn (0) 52 dX9_table_23 c2 (by decide) (by decide) rfl rfl ?_
      replace H := H.1 c2
      refine g_aload_n 1 53 dX9_table_52 rfl rfl ?_
      refine g_getR 56 (a0 + 2) dX9_table_53 rfl flX9_28 s0.1 s0.2.2.2.1 ?_
      refine g_bipush (34) 58 dX9_table_56 rfl rfl ?_
      refine h_iaload 59 34 dX9_table_58 rfl rfl s0.2.2.2.2.1 (vp_lit rfl) ?_
      exact g_iret dX9_table_59 rfl (Nat.zero_le _) (Nat.zero_le _) (hR _ H)
    replace H := H.2 c2
    by_cases c3 : x1 = 1
    · refine h_tabIn (1) 60 dX9_table_23 c3 (by decide) (by decide) rfl rfl ?_
      replace H := H.1 c3
      refine g_aload_n 1 61 dX9_table_60 rfl rfl ?_
      refine g_getR 64 (a0 + 2) dX9_table_61 rfl flX9_28 s0.1 s0.2.2.2.1 ?_
      refine g_bipush (35) 66 dX9_table_64 rfl rfl ?_
      refine h_iaload 67 35 dX9_table_66 rfl rfl s0.2.2.2.2.1 (vp_lit rfl) ?_
      exact g_iret dX9_table_67 rfl (Nat.zero_le _) (Nat.zero_le _) (hR _ H)
    replace H := H.2 c3
    by_cases c4 : x1 = 2
    · refine h_tabIn (2) 68 dX9_table_23 c4 (by decide) (by decide) rfl rfl ?_
      replace H := H.1 c4
      refine g_aload_n 1 69 dX9_table_68 rfl rfl ?_
      refine g_getR 72 (a0 + 2) dX9_table_69 rfl flX9_28 s0.1 s0.2.2.2.1 ?_
      refine g_bipush (36) 74 dX9_table_72 rfl rfl ?_
      refine h_iaload 75 36 dX9_table_74 rfl rfl s0.2.2.2.2.1 (vp_lit rfl) ?_
      exact g_iret dX9_table_75 rfl (Nat.zero_le _) (Nat.zero_le _) (hR _ H)
    replace H := H.2 c4
    by_cases c5 : x1 = 3
    · refine h_tabIn (3) 76 dX9_table_23 c5 (by decide) (by decide) rfl rfl ?_
      replace H := H.1 c5
      refine g_aload_n 1 77 dX9_table_76 rfl rfl ?_
      refine g_iload_n 0 78 dX9_table_77 rfl rfl ?_
      refine g_callV (mc1 := 0) (ms1 := 0) (b := a0) (rest := []) (av := [.int ((3 * (g_mi M (a0 + 2) 34)))]) kX9_signedBelow 81 dX9_table_78 rfl rfl mbX9_407 imX9_signedBelow seX9_signedBelow gcl9.1 s0.1 (Nat.le_of_ble_eq_true rfl) (Nat.zero_le _) (Nat.zero_le _) (uX9_signedBelow (N := N) (K := K) s0 H (fun v1 H => ?_))
      show Go X (d + 2) mc ms kX9_table Q 81 [(2, .int ((3 * (g_mi M (a0 + 2) 34)))), (0, .ref a0), (1, .int (x1))] [.int (v1)] M 0 0
      exact g_iret dX9_table_81 rfl (Nat.zero_le _) (Nat.zero_le _) (hR _ H)
    replace H := H.2 c5
    have tc2 := i_neT c2
    rw [show ((0 : Int32)).toInt = 0 from rfl] at tc2
    have tc3 := i_neT c3
    rw [show ((1 : Int32)).toInt = 1 from rfl] at tc3
    have tc4 := i_neT c4
    rw [show ((2 : Int32)).toInt = 2 from rfl] at tc4
    have tc5 := i_neT c5
    rw [show ((3 : Int32)).toInt = 3 from rfl] at tc5
    refine g_tableOut 82 dX9_table_23 (by omega) rfl ?_
    refine g_aload_n 1 83 dX9_table_82 rfl rfl ?_
    refine g_iload_n 2 84 dX9_table_83 rfl rfl ?_
    refine g_iload_n 0 85 dX9_table_84 rfl rfl ?_
    refine g_callV (mc1 := 0) (ms1 := 0) (b := a0) (rest := []) (av := [.int (x1), .int ((3 * (g_mi M (a0 + 2) 34)))]) kX9_signOrByte 88 dX9_table_85 rfl rfl mbX9_413 imX9_signOrByte seX9_signOrByte gcl9.1 s0.1 (Nat.le_of_ble_eq_true rfl) (Nat.zero_le _) (Nat.zero_le _) (uX9_signOrByte (N := N) (K := K) s0 H (fun v2 H => ?_))
    show Go X (d + 2) mc ms kX9_table Q 88 [(2, .int ((3 * (g_mi M (a0 + 2) 34)))), (0, .ref a0), (1, .int (x1))] [.int (v2)] M 0 0
    exact g_iret dX9_table_88 rfl (Nat.zero_le _) (Nat.zero_le _) (hR _ H)
  · skip
    replace H := H.2 c1
    refine g_iconst ((-1)) 11 dX9_table_10 rfl rfl ?_
    exact g_iret dX9_table_11 rfl (Nat.zero_le _) (Nat.zero_le _) (hR _ H)
/-! group gMP -/
def pX9_readTest_0 (N : Nat) (kp : Nat → gM → Nat → Int32 → Int32 → (Int32 → Int64 → gM → Prop) → Prop) (R : Int32 → Int64 → gM → Prop) (M : gM) (a0 : Nat) (x1 : Int32) : Prop := kp 2 M a0 x1 0 (fun v1 w1 M1 => kp 1 M1 a0 x1 0 R)
def pX9_readTest_5 (N : Nat) (kp : Nat → gM → Nat → Int32 → Int32 → (Int32 → Int64 → gM → Prop) → Prop) (R : Int32 → Int64 → gM → Prop) (M : gM) (a0 : Nat) (x1 : Int32) : Prop := pX9_takes0 N 0 M a0 4 (fun v1 M1 => ((v1 = 0 → R 0 0 M1) ∧ (¬ v1 = 0 → kp 2 M1 a0 x1 0 (fun v2 w2 M2 => kp 1 M2 a0 x1 0 R))))
def pX9_readBoth_0 (N : Nat) (kp : Nat → gM → Nat → Int32 → Int32 → (Int32 → Int64 → gM → Prop) → Prop) (R : Int32 → Int64 → gM → Prop) (M : gM) (a0 : Nat) (x1 : Int32) : Prop := kp 4 M a0 x1 0 (fun v1 w1 M1 => kp 3 M1 a0 x1 0 R)
def pX9_readBoth_5 (N : Nat) (kp : Nat → gM → Nat → Int32 → Int32 → (Int32 → Int64 → gM → Prop) → Prop) (R : Int32 → Int64 → gM → Prop) (M : gM) (a0 : Nat) (x1 : Int32) : Prop := pX9_takes0 N 0 M a0 5 (fun v1 M1 => ((v1 = 0 → R 0 0 M1) ∧ (¬ v1 = 0 → kp 4 M1 a0 x1 0 (fun v2 w2 M2 => kp 3 M2 a0 x1 0 R))))
def pX9_readPlain_0 (N : Nat) (kp : Nat → gM → Nat → Int32 → Int32 → (Int32 → Int64 → gM → Prop) → Prop) (R : Int32 → Int64 → gM → Prop) (M : gM) (a0 : Nat) (x1 : Int32) : Prop := kp 5 M a0 x1 1 R
def pX9_readPlain_2 (N : Nat) (kp : Nat → gM → Nat → Int32 → Int32 → (Int32 → Int64 → gM → Prop) → Prop) (R : Int32 → Int64 → gM → Prop) (M : gM) (a0 : Nat) (x1 : Int32) (x2 : Int32) : Prop := ((x2 = 0 → ∀ v1 : Int32, v1 = (fX9_fine M a0) → ((¬ v1 = 0 → (vp_in ((g_mi M a0 19)) 401) ∧ ∀ v2 : Int32, v2 = (fX9_sign 40) → ((¬ (g_mi M (a0 + 9) ((g_mi M a0 19)).toNatClampNeg) = v2 → kp 6 M a0 x1 0 (fun v3 w3 M1 => ∀ v4 : Int32, v4 = (fX9_sign 60) → pX9_takes0 N 0 M1 a0 v4 (fun v5 M2 => ((¬ v5 = 0 → kp 6 M2 a0 x1 0 (fun v6 w6 M3 => R 0 0 M3)) ∧ (v5 = 0 → ∀ v7 : Int32, v7 = (fX9_sign 62) → pX9_takes0 N 0 M2 a0 v7 (fun v8 M4 => ((¬ v8 = 0 → kp 6 M4 a0 x1 0 (fun v9 w9 M5 => R 0 0 M5)) ∧ (v8 = 0 → ∀ v10 : Int32, v10 = (fX9_sign 61) → pX9_must N 0 M4 a0 v10 (fun M6 => kp 6 M6 a0 x1 0 (fun v11 w11 M7 => R 0 0 M7)))))))))) ∧ ((g_mi M (a0 + 9) ((g_mi M a0 19)).toNatClampNeg) = v2 → ((¬ x1 = 8 → ∀ v12 : Int32, v12 = (fX9_fine M a0) → ((¬ v12 = 0 → ∀ M8 : gM, M8 = (g_wi M a0 19 ((g_mi M a0 19) + 1)) → kp 0 M8 a0 (x1 + 1) 0 (fun v13 w13 M9 => ∀ v14 : Int32, v14 = (fX9_sign 41) → pX9_must N 0 M9 a0 v14 (fun M10 => R 0 0 M10))) ∧ (v12 = 0 → R 0 0 M))) ∧ (x1 = 8 → pX9_faults N 0 M a0 (fun M11 => ∀ v15 : Int32, v15 = (fX9_fine M11 a0) → ((¬ v15 = 0 → ∀ M12 : gM, M12 = (g_wi M11 a0 19 ((g_mi M11 a0 19) + 1)) → kp 0 M12 a0 (x1 + 1) 0 (fun v16 w16 M13 => ∀ v17 : Int32, v17 = (fX9_sign 41) → pX9_must N 0 M13 a0 v17 (fun M14 => R 0 0 M14))) ∧ (v15 = 0 → R 0 0 M11)))))))) ∧ (v1 = 0 → R 0 0 M))) ∧ (¬ x2 = 0 → pX9_takes0 N 0 M a0 6 (fun v18 M15 => kp 5 M15 a0 x1 v18 R)))
def pX9_readSum_0 (N : Nat) (kp : Nat → gM → Nat → Int32 → Int32 → (Int32 → Int64 → gM → Prop) → Prop) (R : Int32 → Int64 → gM → Prop) (M : gM) (a0 : Nat) (x1 : Int32) : Prop := kp 8 M a0 x1 0 (fun v1 w1 M1 => kp 7 M1 a0 x1 0 R)
def pX9_readSum_5 (N : Nat) (kp : Nat → gM → Nat → Int32 → Int32 → (Int32 → Int64 → gM → Prop) → Prop) (R : Int32 → Int64 → gM → Prop) (M : gM) (a0 : Nat) (x1 : Int32) : Prop := ∀ v1 : Int32, v1 = (fX9_sign 43) → pX9_takes0 N 0 M a0 v1 (fun v2 M1 => ((¬ v2 = 0 → kp 8 M1 a0 x1 0 (fun v3 w3 M2 => kp 7 M2 a0 x1 0 R)) ∧ (v2 = 0 → ∀ v4 : Int32, v4 = (fX9_sign 45) → pX9_takes0 N 0 M1 a0 v4 (fun v5 M3 => ((v5 = 0 → R 0 0 M3) ∧ (¬ v5 = 0 → kp 8 M3 a0 x1 0 (fun v6 w6 M4 => kp 7 M4 a0 x1 0 R)))))))
def pX9_readTerm_0 (N : Nat) (kp : Nat → gM → Nat → Int32 → Int32 → (Int32 → Int64 → gM → Prop) → Prop) (R : Int32 → Int64 → gM → Prop) (M : gM) (a0 : Nat) (x1 : Int32) : Prop := kp 10 M a0 x1 0 (fun v1 w1 M1 => kp 9 M1 a0 x1 0 R)
def pX9_readTerm_5 (N : Nat) (kp : Nat → gM → Nat → Int32 → Int32 → (Int32 → Int64 → gM → Prop) → Prop) (R : Int32 → Int64 → gM → Prop) (M : gM) (a0 : Nat) (x1 : Int32) : Prop := ∀ v1 : Int32, v1 = (fX9_sign 42) → pX9_takes0 N 0 M a0 v1 (fun v2 M1 => ((¬ v2 = 0 → kp 10 M1 a0 x1 0 (fun v3 w3 M2 => kp 9 M2 a0 x1 0 R)) ∧ (v2 = 0 → ∀ v4 : Int32, v4 = (fX9_sign 47) → pX9_takes0 N 0 M1 a0 v4 (fun v5 M3 => ((¬ v5 = 0 → kp 10 M3 a0 x1 0 (fun v6 w6 M4 => kp 9 M4 a0 x1 0 R)) ∧ (v5 = 0 → ∀ v7 : Int32, v7 = (fX9_sign 37) → pX9_takes0 N 0 M3 a0 v7 (fun v8 M5 => ((v8 = 0 → R 0 0 M5) ∧ (¬ v8 = 0 → kp 10 M5 a0 x1 0 (fun v9 w9 M6 => kp 9 M6 a0 x1 0 R))))))))))
def pX9_readPart_0 (N : Nat) (kp : Nat → gM → Nat → Int32 → Int32 → (Int32 → Int64 → gM → Prop) → Prop) (R : Int32 → Int64 → gM → Prop) (M : gM) (a0 : Nat) (x1 : Int32) : Prop := ∀ v1 : Int32, v1 = (fX9_fine M a0) → ((¬ v1 = 0 → (vp_in ((g_mi M a0 19)) 401) ∧ ∀ v2 : Int32, v2 = (fX9_sign 91) → ((¬ (g_mi M (a0 + 9) ((g_mi M a0 19)).toNatClampNeg) = v2 → ((¬ (g_mi M (a0 + 9) ((g_mi M a0 19)).toNatClampNeg) = 50 → (((g_mi M (a0 + 9) ((g_mi M a0 19)).toNatClampNeg) < (g_mi M a0 8) → pX9_faults N 0 M a0 (fun M1 => R 0 0 M1)) ∧ (¬ (g_mi M (a0 + 9) ((g_mi M a0 19)).toNatClampNeg) < (g_mi M a0 8) → (((g_mi M a0 9) < (g_mi M (a0 + 9) ((g_mi M a0 19)).toNatClampNeg) → pX9_faults N 0 M a0 (fun M2 => R 0 0 M2)) ∧ (¬ (g_mi M a0 9) < (g_mi M (a0 + 9) ((g_mi M a0 19)).toNatClampNeg) → pX9_leaf N 0 M a0 (fun M3 => (((g_mi M3 a0 10) = 0 → R 0 0 M3) ∧ (¬ (g_mi M3 a0 10) = 0 → ((¬ (g_mi M (a0 + 9) ((g_mi M a0 19)).toNatClampNeg) = 12 → ((¬ (g_mi M (a0 + 9) ((g_mi M a0 19)).toNatClampNeg) = 17 → R 0 0 M3) ∧ ((g_mi M (a0 + 9) ((g_mi M a0 19)).toNatClampNeg) = 17 → pX9_mustNumber N 0 M3 a0 0 999 (fun M4 => R 0 0 M4)))) ∧ ((g_mi M (a0 + 9) ((g_mi M a0 19)).toNatClampNeg) = 12 → pX9_mustNumber N 0 M3 a0 0 59 (fun M5 => (((g_mi M5 a0 10) = 0 → R 0 0 M5) ∧ (¬ (g_mi M5 a0 10) = 0 → R 0 0 M5))))))))))))) ∧ ((g_mi M (a0 + 9) ((g_mi M a0 19)).toNatClampNeg) = 50 → (((g_mi M (a0 + 10) ((g_mi M a0 19)).toNatClampNeg) ≤ 1000 → pX9_leaf N 0 M a0 (fun M6 => (((g_mi M6 a0 10) = 0 → R 0 0 M6) ∧ (¬ (g_mi M6 a0 10) = 0 → R 0 0 M6)))) ∧ (¬ (g_mi M (a0 + 10) ((g_mi M a0 19)).toNatClampNeg) ≤ 1000 → (((g_mi M (a0 + 9) ((g_mi M a0 19)).toNatClampNeg) < (g_mi M a0 8) → pX9_faults N 0 M a0 (fun M7 => R 0 0 M7)) ∧ (¬ (g_mi M (a0 + 9) ((g_mi M a0 19)).toNatClampNeg) < (g_mi M a0 8) → (((g_mi M a0 9) < (g_mi M (a0 + 9) ((g_mi M a0 19)).toNatClampNeg) → pX9_faults N 0 M a0 (fun M8 => R 0 0 M8)) ∧ (¬ (g_mi M a0 9) < (g_mi M (a0 + 9) ((g_mi M a0 19)).toNatClampNeg) → pX9_leaf N 0 M a0 (fun M9 => (((g_mi M9 a0 10) = 0 → R 0 0 M9) ∧ (¬ (g_mi M9 a0 10) = 0 → R 0 0 M9)))))))))))) ∧ ((g_mi M (a0 + 9) ((g_mi M a0 19)).toNatClampNeg) = v2 → ((¬ x1 = 8 → ∀ v3 : Int32, v3 = (fX9_fine M a0) → ((¬ v3 = 0 → ∀ M10 : gM, M10 = (g_wi M a0 19 ((g_mi M a0 19) + 1)) → kp 6 M10 a0 (x1 + 1) 0 (fun v4 w4 M11 => ∀ v5 : Int32, v5 = (fX9_sign 93) → pX9_must N 0 M11 a0 v5 (fun M12 => R 0 0 M12))) ∧ (v3 = 0 → R 0 0 M))) ∧ (x1 = 8 → pX9_faults N 0 M a0 (fun M13 => ∀ v6 : Int32, v6 = (fX9_fine M13 a0) → ((¬ v6 = 0 → ∀ M14 : gM, M14 = (g_wi M13 a0 19 ((g_mi M13 a0 19) + 1)) → kp 6 M14 a0 (x1 + 1) 0 (fun v7 w7 M15 => ∀ v8 : Int32, v8 = (fX9_sign 93) → pX9_must N 0 M15 a0 v8 (fun M16 => R 0 0 M16))) ∧ (v6 = 0 → R 0 0 M13)))))))) ∧ (v1 = 0 → R 0 0 M))
def qgMP (N : Nat) : Nat → Nat → gM → Nat → Int32 → Int32 → (Int32 → Int64 → gM → Prop) → Prop
  | 0, _, _, _, _, _, _ => False
  | n + 1, h, M, a0, x1, x2, R => if h = 0 then pX9_readTest_0 N (qgMP N n) R M a0 x1 else if h = 1 then pX9_readTest_5 N (qgMP N n) R M a0 x1 else if h = 2 then pX9_readBoth_0 N (qgMP N n) R M a0 x1 else if h = 3 then pX9_readBoth_5 N (qgMP N n) R M a0 x1 else if h = 4 then pX9_readPlain_0 N (qgMP N n) R M a0 x1 else if h = 5 then pX9_readPlain_2 N (qgMP N n) R M a0 x1 x2 else if h = 6 then pX9_readSum_0 N (qgMP N n) R M a0 x1 else if h = 7 then pX9_readSum_5 N (qgMP N n) R M a0 x1 else if h = 8 then pX9_readTerm_0 N (qgMP N n) R M a0 x1 else if h = 9 then pX9_readTerm_5 N (qgMP N n) R M a0 x1 else pX9_readPart_0 N (qgMP N n) R M a0 x1
def UX9_readTest_0 (X : gX) (N : Nat) (n : Nat) : Prop := ∀ (d D mc ms : Nat) (Q : Option Value → gM → Prop) (M : gM) (a0 : Nat) (x1 : Int32) (x2 : Int32) (R : Int32 → Int64 → gM → Prop), D = d + n + 4 → Mo M a0 → qgMP N n 0 M a0 x1 x2 R → (∀ (v : Int32) (w : Int64) (M1 : gM), Sm M M1 → R v w M1 → Q none M1) → Cn X D mc ms kX9_readTest [.ref a0, .int (x1)] M Q
def UX9_readTest_5 (X : gX) (N : Nat) (n : Nat) : Prop := ∀ (d D mc ms : Nat) (Q : Option Value → gM → Prop) (M : gM) (a0 : Nat) (x1 : Int32) (x2 : Int32) (R : Int32 → Int64 → gM → Prop), D = d + n + 4 → Mo M a0 → qgMP N n 1 M a0 x1 x2 R → (∀ (v : Int32) (w : Int64) (M1 : gM), Sm M M1 → R v w M1 → Q none M1) → Go X D mc ms kX9_readTest Q 5 [(0, .ref a0), (1, .int (x1))] [] M 0 0
def UX9_readBoth_0 (X : gX) (N : Nat) (n : Nat) : Prop := ∀ (d D mc ms : Nat) (Q : Option Value → gM → Prop) (M : gM) (a0 : Nat) (x1 : Int32) (x2 : Int32) (R : Int32 → Int64 → gM → Prop), D = d + n + 4 → Mo M a0 → qgMP N n 2 M a0 x1 x2 R → (∀ (v : Int32) (w : Int64) (M1 : gM), Sm M M1 → R v w M1 → Q none M1) → Cn X D mc ms kX9_readBoth [.ref a0, .int (x1)] M Q
def UX9_readBoth_5 (X : gX) (N : Nat) (n : Nat) : Prop := ∀ (d D mc ms : Nat) (Q : Option Value → gM → Prop) (M : gM) (a0 : Nat) (x1 : Int32) (x2 : Int32) (R : Int32 → Int64 → gM → Prop), D = d + n + 4 → Mo M a0 → qgMP N n 3 M a0 x1 x2 R → (∀ (v : Int32) (w : Int64) (M1 : gM), Sm M M1 → R v w M1 → Q none M1) → Go X D mc ms kX9_readBoth Q 5 [(0, .ref a0), (1, .int (x1))] [] M 0 0
def UX9_readPlain_0 (X : gX) (N : Nat) (n : Nat) : Prop := ∀ (d D mc ms : Nat) (Q : Option Value → gM → Prop) (M : gM) (a0 : Nat) (x1 : Int32) (x2 : Int32) (R : Int32 → Int64 → gM → Prop), D = d + n + 4 → Mo M a0 → qgMP N n 4 M a0 x1 x2 R → (∀ (v : Int32) (w : Int64) (M1 : gM), Sm M M1 → R v w M1 → Q none M1) → Cn X D mc ms kX9_readPlain [.ref a0, .int (x1)] M Q
def UX9_readPlain_2 (X : gX) (N : Nat) (n : Nat) : Prop := ∀ (d D mc ms : Nat) (Q : Option Value → gM → Prop) (M : gM) (a0 : Nat) (x1 : Int32) (x2 : Int32) (R : Int32 → Int64 → gM → Prop), D = d + n + 4 → Mo M a0 → qgMP N n 5 M a0 x1 x2 R → (∀ (v : Int32) (w : Int64) (M1 : gM), Sm M M1 → R v w M1 → Q none M1) → Go X D mc ms kX9_readPlain Q 2 [(0, .ref a0), (1, .int (x1)), (2, .int (x2))] [] M 0 0
def UX9_readSum_0 (X : gX) (N : Nat) (n : Nat) : Prop := ∀ (d D mc ms : Nat) (Q : Option Value → gM → Prop) (M : gM) (a0 : Nat) (x1 : Int32) (x2 : Int32) (R : Int32 → Int64 → gM → Prop), D = d + n + 4 → Mo M a0 → qgMP N n 6 M a0 x1 x2 R → (∀ (v : Int32) (w : Int64) (M1 : gM), Sm M M1 → R v w M1 → Q none M1) → Cn X D mc ms kX9_readSum [.ref a0, .int (x1)] M Q
def UX9_readSum_5 (X : gX) (N : Nat) (n : Nat) : Prop := ∀ (d D mc ms : Nat) (Q : Option Value → gM → Prop) (M : gM) (a0 : Nat) (x1 : Int32) (x2 : Int32) (R : Int32 → Int64 → gM → Prop), D = d + n + 4 → Mo M a0 → qgMP N n 7 M a0 x1 x2 R → (∀ (v : Int32) (w : Int64) (M1 : gM), Sm M M1 → R v w M1 → Q none M1) → Go X D mc ms kX9_readSum Q 5 [(0, .ref a0), (1, .int (x1))] [] M 0 0
def UX9_readTerm_0 (X : gX) (N : Nat) (n : Nat) : Prop := ∀ (d D mc ms : Nat) (Q : Option Value → gM → Prop) (M : gM) (a0 : Nat) (x1 : Int32) (x2 : Int32) (R : Int32 → Int64 → gM → Prop), D = d + n + 4 → Mo M a0 → qgMP N n 8 M a0 x1 x2 R → (∀ (v : Int32) (w : Int64) (M1 : gM), Sm M M1 → R v w M1 → Q none M1) → Cn X D mc ms kX9_readTerm [.ref a0, .int (x1)] M Q
def UX9_readTerm_5 (X : gX) (N : Nat) (n : Nat) : Prop := ∀ (d D mc ms : Nat) (Q : Option Value → gM → Prop) (M : gM) (a0 : Nat) (x1 : Int32) (x2 : Int32) (R : Int32 → Int64 → gM → Prop), D = d + n + 4 → Mo M a0 → qgMP N n 9 M a0 x1 x2 R → (∀ (v : Int32) (w : Int64) (M1 : gM), Sm M M1 → R v w M1 → Q none M1) → Go X D mc ms kX9_readTerm Q 5 [(0, .ref a0), (1, .int (x1))] [] M 0 0
def UX9_readPart_0 (X : gX) (N : Nat) (n : Nat) : Prop := ∀ (d D mc ms : Nat) (Q : Option Value → gM → Prop) (M : gM) (a0 : Nat) (x1 : Int32) (x2 : Int32) (R : Int32 → Int64 → gM → Prop), D = d + n + 4 → Mo M a0 → qgMP N n 10 M a0 x1 x2 R → (∀ (v : Int32) (w : Int64) (M1 : gM), Sm M M1 → R v w M1 → Q none M1) → Cn X D mc ms kX9_readPart [.ref a0, .int (x1)] M Q
def UgMP (X : gX) (N : Nat) (n : Nat) : Prop := UX9_readTest_0 X N n ∧ UX9_readTest_5 X N n ∧ UX9_readBoth_0 X N n ∧ UX9_readBoth_5 X N n ∧ UX9_readPlain_0 X N n ∧ UX9_readPlain_2 X N n ∧ UX9_readSum_0 X N n ∧ UX9_readSum_5 X N n ∧ UX9_readTerm_0 X N n ∧ UX9_readTerm_5 X N n ∧ UX9_readPart_0 X N n
set_option maxRecDepth 10000 in
theorem uzX9_readTest_0 {X : gX} {N : Nat} {n : Nat} (ih : UgMP X N n) : UX9_readTest_0 X N (n + 1) := by
  intro d D mc ms Q M a0 x1 x2 R hD s0 H hR
  subst hD
  rw [qgMP, if_pos (show (0 : Nat) = 0 from rfl)] at H
  unfold pX9_readTest_0 at H
  refine g_meth rfl rfl (Nat.le_of_ble_eq_true rfl) rfl ?_
  refine g_aload_n 0 1 dX9_readTest_0 rfl rfl ?_
  refine g_iload_n 1 2 dX9_readTest_1 rfl rfl ?_
  refine g_callV (mc1 := 0) (ms1 := 0) (b := a0) (rest := []) (av := [.int (x1)]) kX9_readBoth 5 dX9_readTest_2 rfl rfl mbX9_222 imX9_readBoth seX9_readBoth gcl9.1 s0.1 (Nat.le_of_ble_eq_true rfl) (Nat.zero_le _) (Nat.zero_le _) ((ih.2.2.1) d _ 0 0 _ M a0 x1 0 _ (by omega) s0 H (fun v1 w1 M1 jj H => ?_))
  have j1 : Sm M M1 := jj
  show Go X (d + (n + 1) + 4) mc ms kX9_readTest Q 5 [(0, .ref a0), (1, .int (x1))] [] M1 0 0
  exact (ih.2.1) (d + 1) _ _ _ _ M1 a0 x1 0 _ (by omega) (Mo.sm j1 s0) H (fun v w M1 j r => hR v w M1 (Sm.tr j1 j) r)
set_option maxRecDepth 10000 in
theorem uzX9_readTest_5 {X : gX} {N : Nat} {n : Nat} (ih : UgMP X N n) : UX9_readTest_5 X N (n + 1) := by
  intro d D mc ms Q M a0 x1 x2 R hD s0 H hR
  subst hD
  rw [qgMP, if_neg (show ¬ (1 : Nat) = 0 by decide), if_pos (show (1 : Nat) = 1 from rfl)] at H
  unfold pX9_readTest_5 at H
  refine g_aload_n 0 6 dX9_readTest_5 rfl rfl ?_
  refine g_iconst (4) 7 dX9_readTest_6 rfl rfl ?_
  refine g_callV (mc1 := 0) (ms1 := 0) (b := a0) (rest := []) (av := [.int (4)]) kX9_takes0 10 dX9_readTest_7 rfl rfl mbX9_189 imX9_takes0 seX9_takes0 gcl9.1 s0.1 (Nat.le_of_ble_eq_true rfl) (Nat.zero_le _) (Nat.zero_le _) (uX9_takes0 (N := N) (K := 0) s0 H (fun v1 M1 jj H => ?_))
  have j1 : Sm M M1 := jj
  show Go X (d + (n + 1) + 4) mc ms kX9_readTest Q 10 [(0, .ref a0), (1, .int (x1))] [.int (v1)] M1 0 0
  refine g_if_eq 21 13 dX9_readTest_10 rfl rfl (fun c1 => ?_) (fun c1 => ?_)
  · skip
    replace H := H.1 c1
    exact g_vret dX9_readTest_21 rfl (Nat.zero_le _) (Nat.zero_le _) (hR _ _ _ j1 H)
  · skip
    replace H := H.2 c1
    refine g_aload_n 0 14 dX9_readTest_13 rfl rfl ?_
    refine g_iload_n 1 15 dX9_readTest_14 rfl rfl ?_
    refine g_callV (mc1 := 0) (ms1 := 0) (b := a0) (rest := []) (av := [.int (x1)]) kX9_readBoth 18 dX9_readTest_15 rfl rfl mbX9_222 imX9_readBoth seX9_readBoth gcl9.1 (Sm.k j1 s0.1) (Nat.le_of_ble_eq_true rfl) (Nat.zero_le _) (Nat.zero_le _) ((ih.2.2.1) d _ 0 0 _ M1 a0 x1 0 _ (by omega) (Mo.sm j1 s0) H (fun v2 w2 M2 jj H => ?_))
    have j2 : Sm M M2 := (Sm.tr j1 jj)
    show Go X (d + (n + 1) + 4) mc ms kX9_readTest Q 18 [(0, .ref a0), (1, .int (x1))] [] M2 0 0
    refine g_goto 5 dX9_readTest_18 rfl ?_
    exact (ih.2.1) (d + 1) _ _ _ _ M2 a0 x1 0 _ (by omega) (Mo.sm j2 s0) H (fun v w M1 j r => hR v w M1 (Sm.tr j2 j) r)
set_option maxRecDepth 10000 in
theorem uzX9_readBoth_0 {X : gX} {N : Nat} {n : Nat} (ih : UgMP X N n) : UX9_readBoth_0 X N (n + 1) := by
  intro d D mc ms Q M a0 x1 x2 R hD s0 H hR
  subst hD
  rw [qgMP, if_neg (show ¬ (2 : Nat) = 0 by decide), if_neg (show ¬ (2 : Nat) = 1 by decide), if_pos (show (2 : Nat) = 2 from rfl)] at H
  unfold pX9_readBoth_0 at H
  refine g_meth rfl rfl (Nat.le_of_ble_eq_true rfl) rfl ?_
  refine g_aload_n 0 1 dX9_readBoth_0 rfl rfl ?_
  refine g_iload_n 1 2 dX9_readBoth_1 rfl rfl ?_
  refine g_callV (mc1 := 0) (ms1 := 0) (b := a0) (rest := []) (av := [.int (x1)]) kX9_readPlain 5 dX9_readBoth_2 rfl rfl mbX9_225 imX9_readPlain seX9_readPlain gcl9.1 s0.1 (Nat.le_of_ble_eq_true rfl) (Nat.zero_le _) (Nat.zero_le _) ((ih.2.2.2.2.1) d _ 0 0 _ M a0 x1 0 _ (by omega) s0 H (fun v1 w1 M1 jj H => ?_))
  have j1 : Sm M M1 := jj
  show Go X (d + (n + 1) + 4) mc ms kX9_readBoth Q 5 [(0, .ref a0), (1, .int (x1))] [] M1 0 0
  exact (ih.2.2.2.1) (d + 1) _ _ _ _ M1 a0 x1 0 _ (by omega) (Mo.sm j1 s0) H (fun v w M1 j r => hR v w M1 (Sm.tr j1 j) r)
set_option maxRecDepth 10000 in
theorem uzX9_readBoth_5 {X : gX} {N : Nat} {n : Nat} (ih : UgMP X N n) : UX9_readBoth_5 X N (n + 1) := by
  intro d D mc ms Q M a0 x1 x2 R hD s0 H hR
  subst hD
  rw [qgMP, if_neg (show ¬ (3 : Nat) = 0 by decide), if_neg (show ¬ (3 : Nat) = 1 by decide), if_neg (show ¬ (3 : Nat) = 2 by decide), if_pos (show (3 : Nat) = 3 from rfl)] at H
  unfold pX9_readBoth_5 at H
  refine g_aload_n 0 6 dX9_readBoth_5 rfl rfl ?_
  refine g_iconst (5) 7 dX9_readBoth_6 rfl rfl ?_
  refine g_callV (mc1 := 0) (ms1 := 0) (b := a0) (rest := []) (av := [.int (5)]) kX9_takes0 10 dX9_readBoth_7 rfl rfl mbX9_189 imX9_takes0 seX9_takes0 gcl9.1 s0.1 (Nat.le_of_ble_eq_true rfl) (Nat.zero_le _) (Nat.zero_le _) (uX9_takes0 (N := N) (K := 0) s0 H (fun v1 M1 jj H => ?_))
  have j1 : Sm M M1 := jj
  show Go X (d + (n + 1) + 4) mc ms kX9_readBoth Q 10 [(0, .ref a0), (1, .int (x1))] [.int (v1)] M1 0 0
  refine g_if_eq 21 13 dX9_readBoth_10 rfl rfl (fun c1 => ?_) (fun c1 => ?_)
  · skip
    replace H := H.1 c1
    exact g_vret dX9_readBoth_21 rfl (Nat.zero_le _) (Nat.zero_le _) (hR _ _ _ j1 H)
  · skip
    replace H := H.2 c1
    refine g_aload_n 0 14 dX9_readBoth_13 rfl rfl ?_
    refine g_iload_n 1 15 dX9_readBoth_14 rfl rfl ?_
    refine g_callV (mc1 := 0) (ms1 := 0) (b := a0) (rest := []) (av := [.int (x1)]) kX9_readPlain 18 dX9_readBoth_15 rfl rfl mbX9_225 imX9_readPlain seX9_readPlain gcl9.1 (Sm.k j1 s0.1) (Nat.le_of_ble_eq_true rfl) (Nat.zero_le _) (Nat.zero_le _) ((ih.2.2.2.2.1) d _ 0 0 _ M1 a0 x1 0 _ (by omega) (Mo.sm j1 s0) H (fun v2 w2 M2 jj H => ?_))
    have j2 : Sm M M2 := (Sm.tr j1 jj)
    show Go X (d + (n + 1) + 4) mc ms kX9_readBoth Q 18 [(0, .ref a0), (1, .int (x1))] [] M2 0 0
    refine g_goto 5 dX9_readBoth_18 rfl ?_
    exact (ih.2.2.2.1) (d + 1) _ _ _ _ M2 a0 x1 0 _ (by omega) (Mo.sm j2 s0) H (fun v w M1 j r => hR v w M1 (Sm.tr j2 j) r)
set_option maxRecDepth 10000 in
theorem uzX9_readPlain_0 {X : gX} {N : Nat} {n : Nat} (ih : UgMP X N n) : UX9_readPlain_0 X N (n + 1) := by
  intro d D mc ms Q M a0 x1 x2 R hD s0 H hR
  subst hD
  rw [qgMP, if_neg (show ¬ (4 : Nat) = 0 by decide), if_neg (show ¬ (4 : Nat) = 1 by decide), if_neg (show ¬ (4 : Nat) = 2 by decide), if_neg (show ¬ (4 : Nat) = 3 by decide), if_pos (show (4 : Nat) = 4 from rfl)] at H
  unfold pX9_readPlain_0 at H
  refine g_meth rfl rfl (Nat.le_of_ble_eq_true rfl) rfl ?_
  refine g_iconst (1) 1 dX9_readPlain_0 rfl rfl ?_
  refine g_istore_n 2 [(2, .int (1)), (0, .ref a0), (1, .int (x1))] dX9_readPlain_1 rfl (Nat.le_of_ble_eq_true rfl) rfl ?_
  exact g_sub [1, 2, 0] _ rfl ((ih.2.2.2.2.2.1) (d + 1) _ _ _ _ M a0 x1 1 _ (by omega) s0 H (fun v w M1 j r => hR v w M1 j r))
set_option maxRecDepth 10000 in
theorem uzX9_readPlain_2 {X : gX} {N : Nat} {n : Nat} (ih : UgMP X N n) : UX9_readPlain_2 X N (n + 1) := by
  intro d D mc ms Q M a0 x1 x2 R hD s0 H hR
  subst hD
  rw [qgMP, if_neg (show ¬ (5 : Nat) = 0 by decide), if_neg (show ¬ (5 : Nat) = 1 by decide), if_neg (show ¬ (5 : Nat) = 2 by decide), if_neg (show ¬ (5 : Nat) = 3 by decide), if_neg (show ¬ (5 : Nat) = 4 by decide), if_pos (show (5 : Nat) = 5 from rfl)] at H
  unfold pX9_readPlain_2 at H
  refine g_iload_n 2 3 dX9_readPlain_2 rfl rfl ?_
  refine g_if_eq 16 6 dX9_readPlain_3 rfl rfl (fun c1 => ?_) (fun c1 => ?_)
  · skip
    replace H := H.1 c1
    refine g_aload_n 0 17 dX9_readPlain_16 rfl rfl ?_
    refine g_callV (mc1 := 0) (ms1 := 0) (b := a0) (rest := []) (av := []) kX9_fine 20 dX9_readPlain_17 rfl rfl mbX9_182 imX9_fine seX9_fine gcl9.1 s0.1 (Nat.le_of_ble_eq_true rfl) (Nat.zero_le _) (Nat.zero_le _) (tX9_fine s0 ?_)
    show Go X (d + (n + 1) + 4) mc ms kX9_readPlain Q 20 [(0, .ref a0), (1, .int (x1)), (2, .int (x2))] [.int ((fX9_fine M a0))] M 0 0
    generalize hv1 : (fX9_fine M a0) = v1
    replace H := H v1 hv1.symm
    refine g_if_ne 24 23 dX9_readPlain_20 rfl rfl (fun c2 => ?_) (fun c2 => ?_)
    · skip
      replace H := H.1 c2
      refine g_aload_n 0 25 dX9_readPlain_24 rfl rfl ?_
      refine g_getR 28 (a0 + 9) dX9_readPlain_25 rfl flX9_54 s0.1 s0.2.2.2.2.2.2.2.2.2.2.2.2.2.2.2.2.2.1 ?_
      refine g_aload_n 0 29 dX9_readPlain_28 rfl rfl ?_
      refine g_getI 32 dX9_readPlain_29 rfl flX9_186 s0.1 ?_
      obtain ⟨b1, H⟩ := H
      refine h_iaload 33 ((g_mi M a0 19)).toNatClampNeg dX9_readPlain_32 rfl rfl s0.2.2.2.2.2.2.2.2.2.2.2.2.2.2.2.2.2.2.1 b1 ?_
      refine g_istore_n 34 [(3, .int ((g_mi M (a0 + 9) ((g_mi M a0 19)).toNatClampNeg))), (0, .ref a0), (1, .int (x1)), (2, .int (x2))] dX9_readPlain_33 rfl (Nat.le_of_ble_eq_true rfl) rfl ?_
      refine g_iload_n 0 35 dX9_readPlain_34 rfl rfl ?_
      refine g_bipush (40) 37 dX9_readPlain_35 rfl rfl ?_
      refine g_callS (mc1 := 0) (ms1 := 0) (rest := [.int ((g_mi M (a0 + 9) ((g_mi M a0 19)).toNatClampNeg))]) (av := [.int (40)]) kX9_sign 40 dX9_readPlain_37 rfl rfl mbX9_228 smX9_sign (Nat.le_of_ble_eq_true rfl) (Nat.zero_le _) (Nat.zero_le _) (tX9_sign  ?_)
      show Go X (d + (n + 1) + 4) mc ms kX9_readPlain Q 40 [(3, .int ((g_mi M (a0 + 9) ((g_mi M a0 19)).toNatClampNeg))), (0, .ref a0), (1, .int (x1)), (2, .int (x2))] [.int ((fX9_sign 40)), .int ((g_mi M (a0 + 9) ((g_mi M a0 19)).toNatClampNeg))] M 0 0
      generalize hv2 : (fX9_sign 40) = v2
      replace H := H v2 hv2.symm
      refine g_icmp_ne 90 43 dX9_readPlain_40 rfl rfl (fun c3 => ?_) (fun c3 => ?_)
      · skip
        replace H := H.1 c3
        refine g_aload_n 1 91 dX9_readPlain_90 rfl rfl ?_
        refine g_iload_n 2 92 dX9_readPlain_91 rfl rfl ?_
        refine g_callV (mc1 := 0) (ms1 := 0) (b := a0) (rest := []) (av := [.int (x1)]) kX9_readSum 95 dX9_readPlain_92 rfl rfl mbX9_198 imX9_readSum seX9_readSum gcl9.1 s0.1 (Nat.le_of_ble_eq_true rfl) (Nat.zero_le _) (Nat.zero_le _) ((ih.2.2.2.2.2.2.1) d _ 0 0 _ M a0 x1 0 _ (by omega) s0 H (fun v3 w3 M1 jj H => ?_))
        have j1 : Sm M M1 := jj
        show Go X (d + (n + 1) + 4) mc ms kX9_readPlain Q 95 [(3, .int ((g_mi M (a0 + 9) ((g_mi M a0 19)).toNatClampNeg))), (0, .ref a0), (1, .int (x1)), (2, .int (x2))] [] M1 0 0
        refine g_aload_n 1 96 dX9_readPlain_95 rfl rfl ?_
        refine g_bipush (60) 98 dX9_readPlain_96 rfl rfl ?_
        refine g_callS (mc1 := 0) (ms1 := 0) (rest := [.ref a0]) (av := [.int (60)]) kX9_sign 101 dX9_readPlain_98 rfl rfl mbX9_228 smX9_sign (Nat.le_of_ble_eq_true rfl) (Nat.zero_le _) (Nat.zero_le _) (tX9_sign  ?_)
        show Go X (d + (n + 1) + 4) mc ms kX9_readPlain Q 101 [(3, .int ((g_mi M (a0 + 9) ((g_mi M a0 19)).toNatClampNeg))), (0, .ref a0), (1, .int (x1)), (2, .int (x2))] [.int ((fX9_sign 60)), .ref a0] M1 0 0
        generalize hv4 : (fX9_sign 60) = v4
        replace H := H v4 hv4.symm
        refine g_callV (mc1 := 0) (ms1 := 0) (b := a0) (rest := []) (av := [.int (v4)]) kX9_takes0 104 dX9_readPlain_101 rfl rfl mbX9_189 imX9_takes0 seX9_takes0 gcl9.1 (Sm.k j1 s0.1) (Nat.le_of_ble_eq_true rfl) (Nat.zero_le _) (Nat.zero_le _) (uX9_takes0 (N := N) (K := 0) (Mo.sm j1 s0) H (fun v5 M2 jj H => ?_))
        have j2 : Sm M M2 := Sm.tr j1 jj
        show Go X (d + (n + 1) + 4) mc ms kX9_readPlain Q 104 [(3, .int ((g_mi M (a0 + 9) ((g_mi M a0 19)).toNatClampNeg))), (0, .ref a0), (1, .int (x1)), (2, .int (x2))] [.int (v5)] M2 0 0
        refine g_if_ne 128 107 dX9_readPlain_104 rfl rfl (fun c4 => ?_) (fun c4 => ?_)
        · skip
          replace H := H.1 c4
          refine g_aload_n 1 129 dX9_readPlain_128 rfl rfl ?_
          refine g_iload_n 2 130 dX9_readPlain_129 rfl rfl ?_
          refine g_callV (mc1 := 0) (ms1 := 0) (b := a0) (rest := []) (av := [.int (x1)]) kX9_readSum 133 dX9_readPlain_130 rfl rfl mbX9_198 imX9_readSum seX9_readSum gcl9.1 (Sm.k j2 s0.1) (Nat.le_of_ble_eq_true rfl) (Nat.zero_le _) (Nat.zero_le _) ((ih.2.2.2.2.2.2.1) d _ 0 0 _ M2 a0 x1 0 _ (by omega) (Mo.sm j2 s0) H (fun v6 w6 M3 jj H => ?_))
          have j3 : Sm M M3 := (Sm.tr j2 jj)
          show Go X (d + (n + 1) + 4) mc ms kX9_readPlain Q 133 [(3, .int ((g_mi M (a0 + 9) ((g_mi M a0 19)).toNatClampNeg))), (0, .ref a0), (1, .int (x1)), (2, .int (x2))] [] M3 0 0
          exact g_vret dX9_readPlain_133 rfl (Nat.zero_le _) (Nat.zero_le _) (hR _ _ _ j3 H)
        · skip
          replace H := H.2 c4
          refine g_aload_n 1 108 dX9_readPlain_107 rfl rfl ?_
          refine g_bipush (62) 110 dX9_readPlain_108 rfl rfl ?_
          refine g_callS (mc1 := 0) (ms1 := 0) (rest := [.ref a0]) (av := [.int (62)]) kX9_sign 113 dX9_readPlain_110 rfl rfl mbX9_228 smX9_sign (Nat.le_of_ble_eq_true rfl) (Nat.zero_le _) (Nat.zero_le _) (tX9_sign  ?_)
          show Go X (d + (n + 1) + 4) mc ms kX9_readPlain Q 113 [(3, .int ((g_mi M (a0 + 9) ((g_mi M a0 19)).toNatClampNeg))), (0, .ref a0), (1, .int (x1)), (2, .int (x2))] [.int ((fX9_sign 62)), .ref a0] M2 0 0
          generalize hv7 : (fX9_sign 62) = v7
          replace H := H v7 hv7.symm
          refine g_callV (mc1 := 0) (ms1 := 0) (b := a0) (rest := []) (av := [.int (v7)]) kX9_takes0 116 dX9_readPlain_113 rfl rfl mbX9_189 imX9_takes0 seX9_takes0 gcl9.1 (Sm.k j2 s0.1) (Nat.le_of_ble_eq_true rfl) (Nat.zero_le _) (Nat.zero_le _) (uX9_takes0 (N := N) (K := 0) (Mo.sm j2 s0) H (fun v8 M4 jj H => ?_))
          have j4 : Sm M M4 := Sm.tr j2 jj
          show Go X (d + (n + 1) + 4) mc ms kX9_readPlain Q 116 [(3, .int ((g_mi M (a0 + 9) ((g_mi M a0 19)).toNatClampNeg))), (0, .ref a0), (1, .int (x1)), (2, .int (x2))] [.int (v8)] M4 0 0
          refine g_if_ne 128 119 dX9_readPlain_116 rfl rfl (fun c5 => ?_) (fun c5 => ?_)
          · skip
            replace H := H.1 c5
            refine g_aload_n 1 129 dX9_readPlain_128 rfl rfl ?_
            refine g_iload_n 2 130 dX9_readPlain_129 rfl rfl ?_
            refine g_callV (mc1 := 0) (ms1 := 0) (b := a0) (rest := []) (av := [.int (x1)]) kX9_readSum 133 dX9_readPlain_130 rfl rfl mbX9_198 imX9_readSum seX9_readSum gcl9.1 (Sm.k j4 s0.1) (Nat.le_of_ble_eq_true rfl) (Nat.zero_le _) (Nat.zero_le _) ((ih.2.2.2.2.2.2.1) d _ 0 0 _ M4 a0 x1 0 _ (by omega) (Mo.sm j4 s0) H (fun v9 w9 M5 jj H => ?_))
            have j5 : Sm M M5 := (Sm.tr j4 jj)
            show Go X (d + (n + 1) + 4) mc ms kX9_readPlain Q 133 [(3, .int ((g_mi M (a0 + 9) ((g_mi M a0 19)).toNatClampNeg))), (0, .ref a0), (1, .int (x1)), (2, .int (x2))] [] M5 0 0
            exact g_vret dX9_readPlain_133 rfl (Nat.zero_le _) (Nat.zero_le _) (hR _ _ _ j5 H)
          · skip
            replace H := H.2 c5
            refine g_aload_n 1 120 dX9_readPlain_119 rfl rfl ?_
            refine g_bipush (61) 122 dX9_readPlain_120 rfl rfl ?_
            refine g_callS (mc1 := 0) (ms1 := 0) (rest := [.ref a0]) (av := [.int (61)]) kX9_sign 125 dX9_readPlain_122 rfl rfl mbX9_228 smX9_sign (Nat.le_of_ble_eq_true rfl) (Nat.zero_le _) (Nat.zero_le _) (tX9_sign  ?_)
            show Go X (d + (n + 1) + 4) mc ms kX9_readPlain Q 125 [(3, .int ((g_mi M (a0 + 9) ((g_mi M a0 19)).toNatClampNeg))), (0, .ref a0), (1, .int (x1)), (2, .int (x2))] [.int ((fX9_sign 61)), .ref a0] M4 0 0
            generalize hv10 : (fX9_sign 61) = v10
            replace H := H v10 hv10.symm
            refine g_callV (mc1 := 0) (ms1 := 0) (b := a0) (rest := []) (av := [.int (v10)]) kX9_must 128 dX9_readPlain_125 rfl rfl mbX9_202 imX9_must seX9_must gcl9.1 (Sm.k j4 s0.1) (Nat.le_of_ble_eq_true rfl) (Nat.zero_le _) (Nat.zero_le _) (uX9_must (N := N) (K := 0) (Mo.sm j4 s0) H (fun M6 jj H => ?_))
            have j6 : Sm M M6 := Sm.tr j4 jj
            show Go X (d + (n + 1) + 4) mc ms kX9_readPlain Q 128 [(3, .int ((g_mi M (a0 + 9) ((g_mi M a0 19)).toNatClampNeg))), (0, .ref a0), (1, .int (x1)), (2, .int (x2))] [] M6 0 0
            refine g_aload_n 1 129 dX9_readPlain_128 rfl rfl ?_
            refine g_iload_n 2 130 dX9_readPlain_129 rfl rfl ?_
            refine g_callV (mc1 := 0) (ms1 := 0) (b := a0) (rest := []) (av := [.int (x1)]) kX9_readSum 133 dX9_readPlain_130 rfl rfl mbX9_198 imX9_readSum seX9_readSum gcl9.1 (Sm.k j6 s0.1) (Nat.le_of_ble_eq_true rfl) (Nat.zero_le _) (Nat.zero_le _) ((ih.2.2.2.2.2.2.1) d _ 0 0 _ M6 a0 x1 0 _ (by omega) (Mo.sm j6 s0) H (fun v11 w11 M7 jj H => ?_))
            have j7 : Sm M M7 := (Sm.tr j6 jj)
            show Go X (d + (n + 1) + 4) mc ms kX9_readPlain Q 133 [(3, .int ((g_mi M (a0 + 9) ((g_mi M a0 19)).toNatClampNeg))), (0, .ref a0), (1, .int (x1)), (2, .int (x2))] [] M7 0 0
            exact g_vret dX9_readPlain_133 rfl (Nat.zero_le _) (Nat.zero_le _) (hR _ _ _ j7 H)
      · skip
        replace H := H.2 c3
        refine g_iload_n 2 44 dX9_readPlain_43 rfl rfl ?_
        refine g_bipush (8) 46 dX9_readPlain_44 rfl rfl ?_
        refine g_icmp_ne 53 49 dX9_readPlain_46 rfl rfl (fun c6 => ?_) (fun c6 => ?_)
        · skip
          replace H := H.1 c6
          refine g_aload_n 1 54 dX9_readPlain_53 rfl rfl ?_
          refine g_callV (mc1 := 0) (ms1 := 0) (b := a0) (rest := []) (av := []) kX9_fine 57 dX9_readPlain_54 rfl rfl mbX9_182 imX9_fine seX9_fine gcl9.1 s0.1 (Nat.le_of_ble_eq_true rfl) (Nat.zero_le _) (Nat.zero_le _) (tX9_fine s0 ?_)
          show Go X (d + (n + 1) + 4) mc ms kX9_readPlain Q 57 [(3, .int ((g_mi M (a0 + 9) ((g_mi M a0 19)).toNatClampNeg))), (0, .ref a0), (1, .int (x1)), (2, .int (x2))] [.int ((fX9_fine M a0))] M 0 0
          generalize hv12 : (fX9_fine M a0) = v12
          replace H := H v12 hv12.symm
          refine g_if_ne 61 60 dX9_readPlain_57 rfl rfl (fun c7 => ?_) (fun c7 => ?_)
          · skip
            replace H := H.1 c7
            refine g_aload_n 1 62 dX9_readPlain_61 rfl rfl ?_
            refine g_dup 63 dX9_readPlain_62 rfl rfl ?_
            refine g_getI 66 dX9_readPlain_63 rfl flX9_186 s0.1 ?_
            refine g_iconst (1) 67 dX9_readPlain_66 rfl rfl ?_
            refine g_iadd 68 dX9_readPlain_67 rfl ?_
            refine g_putI 71 dX9_readPlain_68 rfl flX9_186 s0.1 ?_
            generalize hM8 : (g_wi M a0 19 ((g_mi M a0 19) + 1)) = M8
            have j8 : Sm M M8 := by rw [← hM8]; exact (Sm.wi Sm.rf)
            replace H := H M8 hM8.symm
            refine g_aload_n 1 72 dX9_readPlain_71 rfl rfl ?_
            refine g_iload_n 2 73 dX9_readPlain_72 rfl rfl ?_
            refine g_iconst (1) 74 dX9_readPlain_73 rfl rfl ?_
            refine g_iadd 75 dX9_readPlain_74 rfl ?_
            refine g_callV (mc1 := 0) (ms1 := 0) (b := a0) (rest := []) (av := [.int ((x1 + 1))]) kX9_readTest 78 dX9_readPlain_75 rfl rfl mbX9_205 imX9_readTest seX9_readTest gcl9.1 (Sm.k j8 s0.1) (Nat.le_of_ble_eq_true rfl) (Nat.zero_le _) (Nat.zero_le _) ((ih.1) d _ 0 0 _ M8 a0 (x1 + 1) 0 _ (by omega) (Mo.sm j8 s0) H (fun v13 w13 M9 jj H => ?_))
            have j9 : Sm M M9 := (Sm.tr j8 jj)
            show Go X (d + (n + 1) + 4) mc ms kX9_readPlain Q 78 [(3, .int ((g_mi M (a0 + 9) ((g_mi M a0 19)).toNatClampNeg))), (0, .ref a0), (1, .int (x1)), (2, .int (x2))] [] M9 0 0
            refine g_aload_n 1 79 dX9_readPlain_78 rfl rfl ?_
            refine g_bipush (41) 81 dX9_readPlain_79 rfl rfl ?_
            refine g_callS (mc1 := 0) (ms1 := 0) (rest := [.ref a0]) (av := [.int (41)]) kX9_sign 84 dX9_readPlain_81 rfl rfl mbX9_228 smX9_sign (Nat.le_of_ble_eq_true rfl) (Nat.zero_le _) (Nat.zero_le _) (tX9_sign  ?_)
            show Go X (d + (n + 1) + 4) mc ms kX9_readPlain Q 84 [(3, .int ((g_mi M (a0 + 9) ((g_mi M a0 19)).toNatClampNeg))), (0, .ref a0), (1, .int (x1)), (2, .int (x2))] [.int ((fX9_sign 41)), .ref a0] M9 0 0
            generalize hv14 : (fX9_sign 41) = v14
            replace H := H v14 hv14.symm
            refine g_callV (mc1 := 0) (ms1 := 0) (b := a0) (rest := []) (av := [.int (v14)]) kX9_must 87 dX9_readPlain_84 rfl rfl mbX9_202 imX9_must seX9_must gcl9.1 (Sm.k j9 s0.1) (Nat.le_of_ble_eq_true rfl) (Nat.zero_le _) (Nat.zero_le _) (uX9_must (N := N) (K := 0) (Mo.sm j9 s0) H (fun M10 jj H => ?_))
            have j10 : Sm M M10 := Sm.tr j9 jj
            show Go X (d + (n + 1) + 4) mc ms kX9_readPlain Q 87 [(3, .int ((g_mi M (a0 + 9) ((g_mi M a0 19)).toNatClampNeg))), (0, .ref a0), (1, .int (x1)), (2, .int (x2))] [] M10 0 0
            refine g_goto 133 dX9_readPlain_87 rfl ?_
            exact g_vret dX9_readPlain_133 rfl (Nat.zero_le _) (Nat.zero_le _) (hR _ _ _ j10 H)
          · skip
            replace H := H.2 c7
            exact g_vret dX9_readPlain_60 rfl (Nat.zero_le _) (Nat.zero_le _) (hR _ _ _ Sm.rf H)
        · skip
          replace H := H.2 c6
          refine g_aload_n 1 50 dX9_readPlain_49 rfl rfl ?_
          refine g_callV (mc1 := 0) (ms1 := 0) (b := a0) (rest := []) (av := []) kX9_faults 53 dX9_readPlain_50 rfl rfl mbX9_192 imX9_faults seX9_faults gcl9.1 s0.1 (Nat.le_of_ble_eq_true rfl) (Nat.zero_le _) (Nat.zero_le _) (uX9_faults (N := N) (K := 0) s0 H (fun M11 jj H => ?_))
          have j11 : Sm M M11 := jj
          show Go X (d + (n + 1) + 4) mc ms kX9_readPlain Q 53 [(3, .int ((g_mi M (a0 + 9) ((g_mi M a0 19)).toNatClampNeg))), (0, .ref a0), (1, .int (x1)), (2, .int (x2))] [] M11 0 0
          refine g_aload_n 1 54 dX9_readPlain_53 rfl rfl ?_
          refine g_callV (mc1 := 0) (ms1 := 0) (b := a0) (rest := []) (av := []) kX9_fine 57 dX9_readPlain_54 rfl rfl mbX9_182 imX9_fine seX9_fine gcl9.1 (Sm.k j11 s0.1) (Nat.le_of_ble_eq_true rfl) (Nat.zero_le _) (Nat.zero_le _) (tX9_fine (Mo.sm j11 s0) ?_)
          show Go X (d + (n + 1) + 4) mc ms kX9_readPlain Q 57 [(3, .int ((g_mi M (a0 + 9) ((g_mi M a0 19)).toNatClampNeg))), (0, .ref a0), (1, .int (x1)), (2, .int (x2))] [.int ((fX9_fine M11 a0))] M11 0 0
          generalize hv15 : (fX9_fine M11 a0) = v15
          replace H := H v15 hv15.symm
          refine g_if_ne 61 60 dX9_readPlain_57 rfl rfl (fun c8 => ?_) (fun c8 => ?_)
          · skip
            replace H := H.1 c8
            refine g_aload_n 1 62 dX9_readPlain_61 rfl rfl ?_
            refine g_dup 63 dX9_readPlain_62 rfl rfl ?_
            refine g_getI 66 dX9_readPlain_63 rfl flX9_186 (Sm.k j11 s0.1) ?_
            refine g_iconst (1) 67 dX9_readPlain_66 rfl rfl ?_
            refine g_iadd 68 dX9_readPlain_67 rfl ?_
            refine g_putI 71 dX9_readPlain_68 rfl flX9_186 (Sm.k j11 s0.1) ?_
            generalize hM12 : (g_wi M11 a0 19 ((g_mi M11 a0 19) + 1)) = M12
            have j12 : Sm M M12 := by rw [← hM12]; exact (Sm.wi j11)
            replace H := H M12 hM12.symm
            refine g_aload_n 1 72 dX9_readPlain_71 rfl rfl ?_
            refine g_iload_n 2 73 dX9_readPlain_72 rfl rfl ?_
            refine g_iconst (1) 74 dX9_readPlain_73 rfl rfl ?_
            refine g_iadd 75 dX9_readPlain_74 rfl ?_
            refine g_callV (mc1 := 0) (ms1 := 0) (b := a0) (rest := []) (av := [.int ((x1 + 1))]) kX9_readTest 78 dX9_readPlain_75 rfl rfl mbX9_205 imX9_readTest seX9_readTest gcl9.1 (Sm.k j12 s0.1) (Nat.le_of_ble_eq_true rfl) (Nat.zero_le _) (Nat.zero_le _) ((ih.1) d _ 0 0 _ M12 a0 (x1 + 1) 0 _ (by omega) (Mo.sm j12 s0) H (fun v16 w16 M13 jj H => ?_))
            have j13 : Sm M M13 := (Sm.tr j12 jj)
            show Go X (d + (n + 1) + 4) mc ms kX9_readPlain Q 78 [(3, .int ((g_mi M (a0 + 9) ((g_mi M a0 19)).toNatClampNeg))), (0, .ref a0), (1, .int (x1)), (2, .int (x2))] [] M13 0 0
            refine g_aload_n 1 79 dX9_readPlain_78 rfl rfl ?_
            refine g_bipush (41) 81 dX9_readPlain_79 rfl rfl ?_
            refine g_callS (mc1 := 0) (ms1 := 0) (rest := [.ref a0]) (av := [.int (41)]) kX9_sign 84 dX9_readPlain_81 rfl rfl mbX9_228 smX9_sign (Nat.le_of_ble_eq_true rfl) (Nat.zero_le _) (Nat.zero_le _) (tX9_sign  ?_)
            show Go X (d + (n + 1) + 4) mc ms kX9_readPlain Q 84 [(3, .int ((g_mi M (a0 + 9) ((g_mi M a0 19)).toNatClampNeg))), (0, .ref a0), (1, .int (x1)), (2, .int (x2))] [.int ((fX9_sign 41)), .ref a0] M13 0 0
            generalize hv17 : (fX9_sign 41) = v17
            replace H := H v17 hv17.symm
            refine g_callV (mc1 := 0) (ms1 := 0) (b := a0) (rest := []) (av := [.int (v17)]) kX9_must 87 dX9_readPlain_84 rfl rfl mbX9_202 imX9_must seX9_must gcl9.1 (Sm.k j13 s0.1) (Nat.le_of_ble_eq_true rfl) (Nat.zero_le _) (Nat.zero_le _) (uX9_must (N := N) (K := 0) (Mo.sm j13 s0) H (fun M14 jj H => ?_))
            have j14 : Sm M M14 := Sm.tr j13 jj
            show Go X (d + (n + 1) + 4) mc ms kX9_readPlain Q 87 [(3, .int ((g_mi M (a0 + 9) ((g_mi M a0 19)).toNatClampNeg))), (0, .ref a0), (1, .int (x1)), (2, .int (x2))] [] M14 0 0
            refine g_goto 133 dX9_readPlain_87 rfl ?_
            exact g_vret dX9_readPlain_133 rfl (Nat.zero_le _) (Nat.zero_le _) (hR _ _ _ j14 H)
          · skip
            replace H := H.2 c8
            exact g_vret dX9_readPlain_60 rfl (Nat.zero_le _) (Nat.zero_le _) (hR _ _ _ j11 H)
    · skip
      replace H := H.2 c2
      exact g_vret dX9_readPlain_23 rfl (Nat.zero_le _) (Nat.zero_le _) (hR _ _ _ Sm.rf H)
  · skip
    replace H := H.2 c1
    refine g_aload_n 0 7 dX9_readPlain_6 rfl rfl ?_
    refine g_bipush (6) 9 dX9_readPlain_7 rfl rfl ?_
    refine g_callV (mc1 := 0) (ms1 := 0) (b := a0) (rest := []) (av := [.int (6)]) kX9_takes0 12 dX9_readPlain_9 rfl rfl mbX9_189 imX9_takes0 seX9_takes0 gcl9.1 s0.1 (Nat.le_of_ble_eq_true rfl) (Nat.zero_le _) (Nat.zero_le _) (uX9_takes0 (N := N) (K := 0) s0 H (fun v18 M15 jj H => ?_))
    have j15 : Sm M M15 := jj
    show Go X (d + (n + 1) + 4) mc ms kX9_readPlain Q 12 [(0, .ref a0), (1, .int (x1)), (2, .int (x2))] [.int (v18)] M15 0 0
    refine g_istore_n 13 [(2, .int (v18)), (0, .ref a0), (1, .int (x1))] dX9_readPlain_12 rfl (Nat.le_of_ble_eq_true rfl) rfl ?_
    refine g_goto 2 dX9_readPlain_13 rfl ?_
    exact g_sub [1, 2, 0] _ rfl ((ih.2.2.2.2.2.1) (d + 1) _ _ _ _ M15 a0 x1 v18 _ (by omega) (Mo.sm j15 s0) H (fun v w M1 j r => hR v w M1 (Sm.tr j15 j) r))
set_option maxRecDepth 10000 in
theorem uzX9_readSum_0 {X : gX} {N : Nat} {n : Nat} (ih : UgMP X N n) : UX9_readSum_0 X N (n + 1) := by
  intro d D mc ms Q M a0 x1 x2 R hD s0 H hR
  subst hD
  rw [qgMP, if_neg (show ¬ (6 : Nat) = 0 by decide), if_neg (show ¬ (6 : Nat) = 1 by decide), if_neg (show ¬ (6 : Nat) = 2 by decide), if_neg (show ¬ (6 : Nat) = 3 by decide), if_neg (show ¬ (6 : Nat) = 4 by decide), if_neg (show ¬ (6 : Nat) = 5 by decide), if_pos (show (6 : Nat) = 6 from rfl)] at H
  unfold pX9_readSum_0 at H
  refine g_meth rfl rfl (Nat.le_of_ble_eq_true rfl) rfl ?_
  refine g_aload_n 0 1 dX9_readSum_0 rfl rfl ?_
  refine g_iload_n 1 2 dX9_readSum_1 rfl rfl ?_
  refine g_callV (mc1 := 0) (ms1 := 0) (b := a0) (rest := []) (av := [.int (x1)]) kX9_readTerm 5 dX9_readSum_2 rfl rfl mbX9_232 imX9_readTerm seX9_readTerm gcl9.1 s0.1 (Nat.le_of_ble_eq_true rfl) (Nat.zero_le _) (Nat.zero_le _) ((ih.2.2.2.2.2.2.2.2.1) d _ 0 0 _ M a0 x1 0 _ (by omega) s0 H (fun v1 w1 M1 jj H => ?_))
  have j1 : Sm M M1 := jj
  show Go X (d + (n + 1) + 4) mc ms kX9_readSum Q 5 [(0, .ref a0), (1, .int (x1))] [] M1 0 0
  exact (ih.2.2.2.2.2.2.2.1) (d + 1) _ _ _ _ M1 a0 x1 0 _ (by omega) (Mo.sm j1 s0) H (fun v w M1 j r => hR v w M1 (Sm.tr j1 j) r)
set_option maxRecDepth 10000 in
theorem uzX9_readSum_5 {X : gX} {N : Nat} {n : Nat} (ih : UgMP X N n) : UX9_readSum_5 X N (n + 1) := by
  intro d D mc ms Q M a0 x1 x2 R hD s0 H hR
  subst hD
  rw [qgMP, if_neg (show ¬ (7 : Nat) = 0 by decide), if_neg (show ¬ (7 : Nat) = 1 by decide), if_neg (show ¬ (7 : Nat) = 2 by decide), if_neg (show ¬ (7 : Nat) = 3 by decide), if_neg (show ¬ (7 : Nat) = 4 by decide), if_neg (show ¬ (7 : Nat) = 5 by decide), if_neg (show ¬ (7 : Nat) = 6 by decide), if_pos (show (7 : Nat) = 7 from rfl)] at H
  unfold pX9_readSum_5 at H
  refine g_aload_n 0 6 dX9_readSum_5 rfl rfl ?_
  refine g_bipush (43) 8 dX9_readSum_6 rfl rfl ?_
  refine g_callS (mc1 := 0) (ms1 := 0) (rest := [.ref a0]) (av := [.int (43)]) kX9_sign 11 dX9_readSum_8 rfl rfl mbX9_228 smX9_sign (Nat.le_of_ble_eq_true rfl) (Nat.zero_le _) (Nat.zero_le _) (tX9_sign  ?_)
  show Go X (d + (n + 1) + 4) mc ms kX9_readSum Q 11 [(0, .ref a0), (1, .int (x1))] [.int ((fX9_sign 43)), .ref a0] M 0 0
  generalize hv1 : (fX9_sign 43) = v1
  replace H := H v1 hv1.symm
  refine g_callV (mc1 := 0) (ms1 := 0) (b := a0) (rest := []) (av := [.int (v1)]) kX9_takes0 14 dX9_readSum_11 rfl rfl mbX9_189 imX9_takes0 seX9_takes0 gcl9.1 s0.1 (Nat.le_of_ble_eq_true rfl) (Nat.zero_le _) (Nat.zero_le _) (uX9_takes0 (N := N) (K := 0) s0 H (fun v2 M1 jj H => ?_))
  have j1 : Sm M M1 := jj
  show Go X (d + (n + 1) + 4) mc ms kX9_readSum Q 14 [(0, .ref a0), (1, .int (x1))] [.int (v2)] M1 0 0
  refine g_if_ne 29 17 dX9_readSum_14 rfl rfl (fun c1 => ?_) (fun c1 => ?_)
  · skip
    replace H := H.1 c1
    refine g_aload_n 0 30 dX9_readSum_29 rfl rfl ?_
    refine g_iload_n 1 31 dX9_readSum_30 rfl rfl ?_
    refine g_callV (mc1 := 0) (ms1 := 0) (b := a0) (rest := []) (av := [.int (x1)]) kX9_readTerm 34 dX9_readSum_31 rfl rfl mbX9_232 imX9_readTerm seX9_readTerm gcl9.1 (Sm.k j1 s0.1) (Nat.le_of_ble_eq_true rfl) (Nat.zero_le _) (Nat.zero_le _) ((ih.2.2.2.2.2.2.2.2.1) d _ 0 0 _ M1 a0 x1 0 _ (by omega) (Mo.sm j1 s0) H (fun v3 w3 M2 jj H => ?_))
    have j2 : Sm M M2 := (Sm.tr j1 jj)
    show Go X (d + (n + 1) + 4) mc ms kX9_readSum Q 34 [(0, .ref a0), (1, .int (x1))] [] M2 0 0
    refine g_goto 5 dX9_readSum_34 rfl ?_
    exact (ih.2.2.2.2.2.2.2.1) (d + 1) _ _ _ _ M2 a0 x1 0 _ (by omega) (Mo.sm j2 s0) H (fun v w M1 j r => hR v w M1 (Sm.tr j2 j) r)
  · skip
    replace H := H.2 c1
    refine g_aload_n 0 18 dX9_readSum_17 rfl rfl ?_
    refine g_bipush (45) 20 dX9_readSum_18 rfl rfl ?_
    refine g_callS (mc1 := 0) (ms1 := 0) (rest := [.ref a0]) (av := [.int (45)]) kX9_sign 23 dX9_readSum_20 rfl rfl mbX9_228 smX9_sign (Nat.le_of_ble_eq_true rfl) (Nat.zero_le _) (Nat.zero_le _) (tX9_sign  ?_)
    show Go X (d + (n + 1) + 4) mc ms kX9_readSum Q 23 [(0, .ref a0), (1, .int (x1))] [.int ((fX9_sign 45)), .ref a0] M1 0 0
    generalize hv4 : (fX9_sign 45) = v4
    replace H := H v4 hv4.symm
    refine g_callV (mc1 := 0) (ms1 := 0) (b := a0) (rest := []) (av := [.int (v4)]) kX9_takes0 26 dX9_readSum_23 rfl rfl mbX9_189 imX9_takes0 seX9_takes0 gcl9.1 (Sm.k j1 s0.1) (Nat.le_of_ble_eq_true rfl) (Nat.zero_le _) (Nat.zero_le _) (uX9_takes0 (N := N) (K := 0) (Mo.sm j1 s0) H (fun v5 M3 jj H => ?_))
    have j3 : Sm M M3 := Sm.tr j1 jj
    show Go X (d + (n + 1) + 4) mc ms kX9_readSum Q 26 [(0, .ref a0), (1, .int (x1))] [.int (v5)] M3 0 0
    refine g_if_eq 37 29 dX9_readSum_26 rfl rfl (fun c2 => ?_) (fun c2 => ?_)
    · skip
      replace H := H.1 c2
      exact g_vret dX9_readSum_37 rfl (Nat.zero_le _) (Nat.zero_le _) (hR _ _ _ j3 H)
    · skip
      replace H := H.2 c2
      refine g_aload_n 0 30 dX9_readSum_29 rfl rfl ?_
      refine g_iload_n 1 31 dX9_readSum_30 rfl rfl ?_
      refine g_callV (mc1 := 0) (ms1 := 0) (b := a0) (rest := []) (av := [.int (x1)]) kX9_readTerm 34 dX9_readSum_31 rfl rfl mbX9_232 imX9_readTerm seX9_readTerm gcl9.1 (Sm.k j3 s0.1) (Nat.le_of_ble_eq_true rfl) (Nat.zero_le _) (Nat.zero_le _) ((ih.2.2.2.2.2.2.2.2.1) d _ 0 0 _ M3 a0 x1 0 _ (by omega) (Mo.sm j3 s0) H (fun v6 w6 M4 jj H => ?_))
      have j4 : Sm M M4 := (Sm.tr j3 jj)
      show Go X (d + (n + 1) + 4) mc ms kX9_readSum Q 34 [(0, .ref a0), (1, .int (x1))] [] M4 0 0
      refine g_goto 5 dX9_readSum_34 rfl ?_
      exact (ih.2.2.2.2.2.2.2.1) (d + 1) _ _ _ _ M4 a0 x1 0 _ (by omega) (Mo.sm j4 s0) H (fun v w M1 j r => hR v w M1 (Sm.tr j4 j) r)
set_option maxRecDepth 10000 in
theorem uzX9_readTerm_0 {X : gX} {N : Nat} {n : Nat} (ih : UgMP X N n) : UX9_readTerm_0 X N (n + 1) := by
  intro d D mc ms Q M a0 x1 x2 R hD s0 H hR
  subst hD
  rw [qgMP, if_neg (show ¬ (8 : Nat) = 0 by decide), if_neg (show ¬ (8 : Nat) = 1 by decide), if_neg (show ¬ (8 : Nat) = 2 by decide), if_neg (show ¬ (8 : Nat) = 3 by decide), if_neg (show ¬ (8 : Nat) = 4 by decide), if_neg (show ¬ (8 : Nat) = 5 by decide), if_neg (show ¬ (8 : Nat) = 6 by decide), if_neg (show ¬ (8 : Nat) = 7 by decide), if_pos (show (8 : Nat) = 8 from rfl)] at H
  unfold pX9_readTerm_0 at H
  refine g_meth rfl rfl (Nat.le_of_ble_eq_true rfl) rfl ?_
  refine g_aload_n 0 1 dX9_readTerm_0 rfl rfl ?_
  refine g_iload_n 1 2 dX9_readTerm_1 rfl rfl ?_
  refine g_callV (mc1 := 0) (ms1 := 0) (b := a0) (rest := []) (av := [.int (x1)]) kX9_readPart 5 dX9_readTerm_2 rfl rfl mbX9_235 imX9_readPart seX9_readPart gcl9.1 s0.1 (Nat.le_of_ble_eq_true rfl) (Nat.zero_le _) (Nat.zero_le _) ((ih.2.2.2.2.2.2.2.2.2.2) d _ 0 0 _ M a0 x1 0 _ (by omega) s0 H (fun v1 w1 M1 jj H => ?_))
  have j1 : Sm M M1 := jj
  show Go X (d + (n + 1) + 4) mc ms kX9_readTerm Q 5 [(0, .ref a0), (1, .int (x1))] [] M1 0 0
  exact (ih.2.2.2.2.2.2.2.2.2.1) (d + 1) _ _ _ _ M1 a0 x1 0 _ (by omega) (Mo.sm j1 s0) H (fun v w M1 j r => hR v w M1 (Sm.tr j1 j) r)
set_option maxRecDepth 10000 in
theorem uzX9_readTerm_5 {X : gX} {N : Nat} {n : Nat} (ih : UgMP X N n) : UX9_readTerm_5 X N (n + 1) := by
  intro d D mc ms Q M a0 x1 x2 R hD s0 H hR
  subst hD
  rw [qgMP, if_neg (show ¬ (9 : Nat) = 0 by decide), if_neg (show ¬ (9 : Nat) = 1 by decide), if_neg (show ¬ (9 : Nat) = 2 by decide), if_neg (show ¬ (9 : Nat) = 3 by decide), if_neg (show ¬ (9 : Nat) = 4 by decide), if_neg (show ¬ (9 : Nat) = 5 by decide), if_neg (show ¬ (9 : Nat) = 6 by decide), if_neg (show ¬ (9 : Nat) = 7 by decide), if_neg (show ¬ (9 : Nat) = 8 by decide), if_pos (show (9 : Nat) = 9 from rfl)] at H
  unfold pX9_readTerm_5 at H
  refine g_aload_n 0 6 dX9_readTerm_5 rfl rfl ?_
  refine g_bipush (42) 8 dX9_readTerm_6 rfl rfl ?_
  refine g_callS (mc1 := 0) (ms1 := 0) (rest := [.ref a0]) (av := [.int (42)]) kX9_sign 11 dX9_readTerm_8 rfl rfl mbX9_228 smX9_sign (Nat.le_of_ble_eq_true rfl) (Nat.zero_le _) (Nat.zero_le _) (tX9_sign  ?_)
  show Go X (d + (n + 1) + 4) mc ms kX9_readTerm Q 11 [(0, .ref a0), (1, .int (x1))] [.int ((fX9_sign 42)), .ref a0] M 0 0
  generalize hv1 : (fX9_sign 42) = v1
  replace H := H v1 hv1.symm
  refine g_callV (mc1 := 0) (ms1 := 0) (b := a0) (rest := []) (av := [.int (v1)]) kX9_takes0 14 dX9_readTerm_11 rfl rfl mbX9_189 imX9_takes0 seX9_takes0 gcl9.1 s0.1 (Nat.le_of_ble_eq_true rfl) (Nat.zero_le _) (Nat.zero_le _) (uX9_takes0 (N := N) (K := 0) s0 H (fun v2 M1 jj H => ?_))
  have j1 : Sm M M1 := jj
  show Go X (d + (n + 1) + 4) mc ms kX9_readTerm Q 14 [(0, .ref a0), (1, .int (x1))] [.int (v2)] M1 0 0
  refine g_if_ne 41 17 dX9_readTerm_14 rfl rfl (fun c1 => ?_) (fun c1 => ?_)
  · skip
    replace H := H.1 c1
    refine g_aload_n 0 42 dX9_readTerm_41 rfl rfl ?_
    refine g_iload_n 1 43 dX9_readTerm_42 rfl rfl ?_
    refine g_callV (mc1 := 0) (ms1 := 0) (b := a0) (rest := []) (av := [.int (x1)]) kX9_readPart 46 dX9_readTerm_43 rfl rfl mbX9_235 imX9_readPart seX9_readPart gcl9.1 (Sm.k j1 s0.1) (Nat.le_of_ble_eq_true rfl) (Nat.zero_le _) (Nat.zero_le _) ((ih.2.2.2.2.2.2.2.2.2.2) d _ 0 0 _ M1 a0 x1 0 _ (by omega) (Mo.sm j1 s0) H (fun v3 w3 M2 jj H => ?_))
    have j2 : Sm M M2 := (Sm.tr j1 jj)
    show Go X (d + (n + 1) + 4) mc ms kX9_readTerm Q 46 [(0, .ref a0), (1, .int (x1))] [] M2 0 0
    refine g_goto 5 dX9_readTerm_46 rfl ?_
    exact (ih.2.2.2.2.2.2.2.2.2.1) (d + 1) _ _ _ _ M2 a0 x1 0 _ (by omega) (Mo.sm j2 s0) H (fun v w M1 j r => hR v w M1 (Sm.tr j2 j) r)
  · skip
    replace H := H.2 c1
    refine g_aload_n 0 18 dX9_readTerm_17 rfl rfl ?_
    refine g_bipush (47) 20 dX9_readTerm_18 rfl rfl ?_
    refine g_callS (mc1 := 0) (ms1 := 0) (rest := [.ref a0]) (av := [.int (47)]) kX9_sign 23 dX9_readTerm_20 rfl rfl mbX9_228 smX9_sign (Nat.le_of_ble_eq_true rfl) (Nat.zero_le _) (Nat.zero_le _) (tX9_sign  ?_)
    show Go X (d + (n + 1) + 4) mc ms kX9_readTerm Q 23 [(0, .ref a0), (1, .int (x1))] [.int ((fX9_sign 47)), .ref a0] M1 0 0
    generalize hv4 : (fX9_sign 47) = v4
    replace H := H v4 hv4.symm
    refine g_callV (mc1 := 0) (ms1 := 0) (b := a0) (rest := []) (av := [.int (v4)]) kX9_takes0 26 dX9_readTerm_23 rfl rfl mbX9_189 imX9_takes0 seX9_takes0 gcl9.1 (Sm.k j1 s0.1) (Nat.le_of_ble_eq_true rfl) (Nat.zero_le _) (Nat.zero_le _) (uX9_takes0 (N := N) (K := 0) (Mo.sm j1 s0) H (fun v5 M3 jj H => ?_))
    have j3 : Sm M M3 := Sm.tr j1 jj
    show Go X (d + (n + 1) + 4) mc ms kX9_readTerm Q 26 [(0, .ref a0), (1, .int (x1))] [.int (v5)] M3 0 0
    refine g_if_ne 41 29 dX9_readTerm_26 rfl rfl (fun c2 => ?_) (fun c2 => ?_)
    · skip
      replace H := H.1 c2
      refine g_aload_n 0 42 dX9_readTerm_41 rfl rfl ?_
      refine g_iload_n 1 43 dX9_readTerm_42 rfl rfl ?_
      refine g_callV (mc1 := 0) (ms1 := 0) (b := a0) (rest := []) (av := [.int (x1)]) kX9_readPart 46 dX9_readTerm_43 rfl rfl mbX9_235 imX9_readPart seX9_readPart gcl9.1 (Sm.k j3 s0.1) (Nat.le_of_ble_eq_true rfl) (Nat.zero_le _) (Nat.zero_le _) ((ih.2.2.2.2.2.2.2.2.2.2) d _ 0 0 _ M3 a0 x1 0 _ (by omega) (Mo.sm j3 s0) H (fun v6 w6 M4 jj H => ?_))
      have j4 : Sm M M4 := (Sm.tr j3 jj)
      show Go X (d + (n + 1) + 4) mc ms kX9_readTerm Q 46 [(0, .ref a0), (1, .int (x1))] [] M4 0 0
      refine g_goto 5 dX9_readTerm_46 rfl ?_
      exact (ih.2.2.2.2.2.2.2.2.2.1) (d + 1) _ _ _ _ M4 a0 x1 0 _ (by omega) (Mo.sm j4 s0) H (fun v w M1 j r => hR v w M1 (Sm.tr j4 j) r)
    · skip
      replace H := H.2 c2
      refine g_aload_n 0 30 dX9_readTerm_29 rfl rfl ?_
      refine g_bipush (37) 32 dX9_readTerm_30 rfl rfl ?_
      refine g_callS (mc1 := 0) (ms1 := 0) (rest := [.ref a0]) (av := [.int (37)]) kX9_sign 35 dX9_readTerm_32 rfl rfl mbX9_228 smX9_sign (Nat.le_of_ble_eq_true rfl) (Nat.zero_le _) (Nat.zero_le _) (tX9_sign  ?_)
      show Go X (d + (n + 1) + 4) mc ms kX9_readTerm Q 35 [(0, .ref a0), (1, .int (x1))] [.int ((fX9_sign 37)), .ref a0] M3 0 0
      generalize hv7 : (fX9_sign 37) = v7
      replace H := H v7 hv7.symm
      refine g_callV (mc1 := 0) (ms1 := 0) (b := a0) (rest := []) (av := [.int (v7)]) kX9_takes0 38 dX9_readTerm_35 rfl rfl mbX9_189 imX9_takes0 seX9_takes0 gcl9.1 (Sm.k j3 s0.1) (Nat.le_of_ble_eq_true rfl) (Nat.zero_le _) (Nat.zero_le _) (uX9_takes0 (N := N) (K := 0) (Mo.sm j3 s0) H (fun v8 M5 jj H => ?_))
      have j5 : Sm M M5 := Sm.tr j3 jj
      show Go X (d + (n + 1) + 4) mc ms kX9_readTerm Q 38 [(0, .ref a0), (1, .int (x1))] [.int (v8)] M5 0 0
      refine g_if_eq 49 41 dX9_readTerm_38 rfl rfl (fun c3 => ?_) (fun c3 => ?_)
      · skip
        replace H := H.1 c3
        exact g_vret dX9_readTerm_49 rfl (Nat.zero_le _) (Nat.zero_le _) (hR _ _ _ j5 H)
      · skip
        replace H := H.2 c3
        refine g_aload_n 0 42 dX9_readTerm_41 rfl rfl ?_
        refine g_iload_n 1 43 dX9_readTerm_42 rfl rfl ?_
        refine g_callV (mc1 := 0) (ms1 := 0) (b := a0) (rest := []) (av := [.int (x1)]) kX9_readPart 46 dX9_readTerm_43 rfl rfl mbX9_235 imX9_readPart seX9_readPart gcl9.1 (Sm.k j5 s0.1) (Nat.le_of_ble_eq_true rfl) (Nat.zero_le _) (Nat.zero_le _) ((ih.2.2.2.2.2.2.2.2.2.2) d _ 0 0 _ M5 a0 x1 0 _ (by omega) (Mo.sm j5 s0) H (fun v9 w9 M6 jj H => ?_))
        have j6 : Sm M M6 := (Sm.tr j5 jj)
        show Go X (d + (n + 1) + 4) mc ms kX9_readTerm Q 46 [(0, .ref a0), (1, .int (x1))] [] M6 0 0
        refine g_goto 5 dX9_readTerm_46 rfl ?_
        exact (ih.2.2.2.2.2.2.2.2.2.1) (d + 1) _ _ _ _ M6 a0 x1 0 _ (by omega) (Mo.sm j6 s0) H (fun v w M1 j r => hR v w M1 (Sm.tr j6 j) r)
set_option maxRecDepth 10000 in
theorem uzX9_readPart_0 {X : gX} {N : Nat} {n : Nat} (ih : UgMP X N n) : UX9_readPart_0 X N (n + 1) := by
  intro d D mc ms Q M a0 x1 x2 R hD s0 H hR
  subst hD
  rw [qgMP, if_neg (show ¬ (10 : Nat) = 0 by decide), if_neg (show ¬ (10 : Nat) = 1 by decide), if_neg (show ¬ (10 : Nat) = 2 by decide), if_neg (show ¬ (10 : Nat) = 3 by decide), if_neg (show ¬ (10 : Nat) = 4 by decide), if_neg (show ¬ (10 : Nat) = 5 by decide), if_neg (show ¬ (10 : Nat) = 6 by decide), if_neg (show ¬ (10 : Nat) = 7 by decide), if_neg (show ¬ (10 : Nat) = 8 by decide), if_neg (show ¬ (10 : Nat) = 9 by decide)] at H
  unfold pX9_readPart_0 at H
  refine g_meth rfl rfl (Nat.le_of_ble_eq_true rfl) rfl ?_
  refine g_aload_n 0 1 dX9_readPart_0 rfl rfl ?_
  refine g_callV (mc1 := 0) (ms1 := 0) (b := a0) (rest := []) (av := []) kX9_fine 4 dX9_readPart_1 rfl rfl mbX9_182 imX9_fine seX9_fine gcl9.1 s0.1 (Nat.le_of_ble_eq_true rfl) (Nat.zero_le _) (Nat.zero_le _) (tX9_fine s0 ?_)
  show Go X (d + (n + 1) + 4) mc ms kX9_readPart Q 4 [(0, .ref a0), (1, .int (x1))] [.int ((fX9_fine M a0))] M 0 0
  generalize hv1 : (fX9_fine M a0) = v1
  replace H := H v1 hv1.symm
  refine g_if_ne 8 7 dX9_readPart_4 rfl rfl (fun c1 => ?_) (fun c1 => ?_)
  · skip
    replace H := H.1 c1
    refine g_aload_n 0 9 dX9_readPart_8 rfl rfl ?_
    refine g_getR 12 (a0 + 9) dX9_readPart_9 rfl flX9_54 s0.1 s0.2.2.2.2.2.2.2.2.2.2.2.2.2.2.2.2.2.1 ?_
    refine g_aload_n 0 13 dX9_readPart_12 rfl rfl ?_
    refine g_getI 16 dX9_readPart_13 rfl flX9_186 s0.1 ?_
    obtain ⟨b1, H⟩ := H
    refine h_iaload 17 ((g_mi M a0 19)).toNatClampNeg dX9_readPart_16 rfl rfl s0.2.2.2.2.2.2.2.2.2.2.2.2.2.2.2.2.2.2.1 b1 ?_
    refine g_istore_n 18 [(2, .int ((g_mi M (a0 + 9) ((g_mi M a0 19)).toNatClampNeg))), (0, .ref a0), (1, .int (x1))] dX9_readPart_17 rfl (Nat.le_of_ble_eq_true rfl) rfl ?_
    refine g_iload_n 0 19 dX9_readPart_18 rfl rfl ?_
    refine g_bipush (91) 21 dX9_readPart_19 rfl rfl ?_
    refine g_callS (mc1 := 0) (ms1 := 0) (rest := [.int ((g_mi M (a0 + 9) ((g_mi M a0 19)).toNatClampNeg))]) (av := [.int (91)]) kX9_sign 24 dX9_readPart_21 rfl rfl mbX9_228 smX9_sign (Nat.le_of_ble_eq_true rfl) (Nat.zero_le _) (Nat.zero_le _) (tX9_sign  ?_)
    show Go X (d + (n + 1) + 4) mc ms kX9_readPart Q 24 [(2, .int ((g_mi M (a0 + 9) ((g_mi M a0 19)).toNatClampNeg))), (0, .ref a0), (1, .int (x1))] [.int ((fX9_sign 91)), .int ((g_mi M (a0 + 9) ((g_mi M a0 19)).toNatClampNeg))] M 0 0
    generalize hv2 : (fX9_sign 91) = v2
    replace H := H v2 hv2.symm
    refine g_icmp_ne 74 27 dX9_readPart_24 rfl rfl (fun c2 => ?_) (fun c2 => ?_)
    · skip
      replace H := H.1 c2
      refine g_iload_n 0 75 dX9_readPart_74 rfl rfl ?_
      refine g_bipush (50) 77 dX9_readPart_75 rfl rfl ?_
      refine g_icmp_ne 95 80 dX9_readPart_77 rfl rfl (fun c3 => ?_) (fun c3 => ?_)
      · skip
        replace H := H.1 c3
        refine g_iload_n 0 96 dX9_readPart_95 rfl rfl ?_
        refine g_aload_n 1 97 dX9_readPart_96 rfl rfl ?_
        refine g_getI 100 dX9_readPart_97 rfl flX9_238 s0.1 ?_
        refine g_icmp_lt 159 103 dX9_readPart_100 rfl rfl (fun c4 => ?_) (fun c4 => ?_)
        · skip
          replace H := H.1 c4
          refine g_aload_n 1 160 dX9_readPart_159 rfl rfl ?_
          refine g_callV (mc1 := 0) (ms1 := 0) (b := a0) (rest := []) (av := []) kX9_faults 163 dX9_readPart_160 rfl rfl mbX9_192 imX9_faults seX9_faults gcl9.1 s0.1 (Nat.le_of_ble_eq_true rfl) (Nat.zero_le _) (Nat.zero_le _) (uX9_faults (N := N) (K := 0) s0 H (fun M1 jj H => ?_))
          have j1 : Sm M M1 := jj
          show Go X (d + (n + 1) + 4) mc ms kX9_readPart Q 163 [(2, .int ((g_mi M (a0 + 9) ((g_mi M a0 19)).toNatClampNeg))), (0, .ref a0), (1, .int (x1))] [] M1 0 0
          exact g_vret dX9_readPart_163 rfl (Nat.zero_le _) (Nat.zero_le _) (hR _ _ _ j1 H)
        · skip
          replace H := H.2 c4
          refine g_iload_n 0 104 dX9_readPart_103 rfl rfl ?_
          refine g_aload_n 1 105 dX9_readPart_104 rfl rfl ?_
          refine g_getI 108 dX9_readPart_105 rfl flX9_241 s0.1 ?_
          refine g_icmp_gt 159 111 dX9_readPart_108 rfl rfl (fun c5 => ?_) (fun c5 => ?_)
          · skip
            replace H := H.1 c5
            refine g_aload_n 1 160 dX9_readPart_159 rfl rfl ?_
            refine g_callV (mc1 := 0) (ms1 := 0) (b := a0) (rest := []) (av := []) kX9_faults 163 dX9_readPart_160 rfl rfl mbX9_192 imX9_faults seX9_faults gcl9.1 s0.1 (Nat.le_of_ble_eq_true rfl) (Nat.zero_le _) (Nat.zero_le _) (uX9_faults (N := N) (K := 0) s0 H (fun M2 jj H => ?_))
            have j2 : Sm M M2 := jj
            show Go X (d + (n + 1) + 4) mc ms kX9_readPart Q 163 [(2, .int ((g_mi M (a0 + 9) ((g_mi M a0 19)).toNatClampNeg))), (0, .ref a0), (1, .int (x1))] [] M2 0 0
            exact g_vret dX9_readPart_163 rfl (Nat.zero_le _) (Nat.zero_le _) (hR _ _ _ j2 H)
          · skip
            replace H := H.2 c5
            refine g_aload_n 1 112 dX9_readPart_111 rfl rfl ?_
            refine g_callV (mc1 := 0) (ms1 := 0) (b := a0) (rest := []) (av := []) kX9_leaf 115 dX9_readPart_112 rfl rfl mbX9_244 imX9_leaf seX9_leaf gcl9.1 s0.1 (Nat.le_of_ble_eq_true rfl) (Nat.zero_le _) (Nat.zero_le _) (uX9_leaf (N := N) (K := 0) s0 H (fun M3 jj H => ?_))
            have j3 : Sm M M3 := jj
            show Go X (d + (n + 1) + 4) mc ms kX9_readPart Q 115 [(2, .int ((g_mi M (a0 + 9) ((g_mi M a0 19)).toNatClampNeg))), (0, .ref a0), (1, .int (x1))] [] M3 0 0
            refine g_aload_n 1 116 dX9_readPart_115 rfl rfl ?_
            refine g_getI 119 dX9_readPart_116 rfl flX9_212 (Sm.k j3 s0.1) ?_
            refine g_if_eq 135 122 dX9_readPart_119 rfl rfl (fun c6 => ?_) (fun c6 => ?_)
            · skip
              replace H := H.1 c6
              refine g_aload_n 1 136 dX9_readPart_135 rfl rfl ?_
              refine g_getI 139 dX9_readPart_136 rfl flX9_212 (Sm.k j3 s0.1) ?_
              refine g_if_eq 163 142 dX9_readPart_139 rfl rfl (fun _ => ?_) (fun q => absurd c6 q)
              exact g_vret dX9_readPart_163 rfl (Nat.zero_le _) (Nat.zero_le _) (hR _ _ _ j3 H)
            · skip
              replace H := H.2 c6
              refine g_iload_n 0 123 dX9_readPart_122 rfl rfl ?_
              refine g_bipush (12) 125 dX9_readPart_123 rfl rfl ?_
              refine g_icmp_ne 135 128 dX9_readPart_125 rfl rfl (fun c7 => ?_) (fun c7 => ?_)
              · skip
                replace H := H.1 c7
                refine g_aload_n 1 136 dX9_readPart_135 rfl rfl ?_
                refine g_getI 139 dX9_readPart_136 rfl flX9_212 (Sm.k j3 s0.1) ?_
                refine g_if_eq 163 142 dX9_readPart_139 rfl rfl (fun q => absurd q c6) (fun _ => ?_)
                refine g_iload_n 0 143 dX9_readPart_142 rfl rfl ?_
                refine g_bipush (17) 145 dX9_readPart_143 rfl rfl ?_
                refine g_icmp_ne 163 148 dX9_readPart_145 rfl rfl (fun c8 => ?_) (fun c8 => ?_)
                · skip
                  replace H := H.1 c8
                  exact g_vret dX9_readPart_163 rfl (Nat.zero_le _) (Nat.zero_le _) (hR _ _ _ j3 H)
                · skip
                  replace H := H.2 c8
                  refine g_aload_n 1 149 dX9_readPart_148 rfl rfl ?_
                  refine g_iconst (0) 150 dX9_readPart_149 rfl rfl ?_
                  refine g_sipush (999) 153 dX9_readPart_150 rfl rfl ?_
                  refine g_callV (mc1 := 0) (ms1 := 0) (b := a0) (rest := []) (av := [.int (0), .int (999)]) kX9_mustNumber 156 dX9_readPart_153 rfl rfl mbX9_208 imX9_mustNumber seX9_mustNumber gcl9.1 (Sm.k j3 s0.1) (Nat.le_of_ble_eq_true rfl) (Nat.zero_le _) (Nat.zero_le _) (uX9_mustNumber (N := N) (K := 0) (Mo.sm j3 s0) H (fun M4 jj H => ?_))
                  have j4 : Sm M M4 := Sm.tr j3 jj
                  show Go X (d + (n + 1) + 4) mc ms kX9_readPart Q 156 [(2, .int ((g_mi M (a0 + 9) ((g_mi M a0 19)).toNatClampNeg))), (0, .ref a0), (1, .int (x1))] [] M4 0 0
                  refine g_goto 163 dX9_readPart_156 rfl ?_
                  exact g_vret dX9_readPart_163 rfl (Nat.zero_le _) (Nat.zero_le _) (hR _ _ _ j4 H)
              · skip
                replace H := H.2 c7
                refine g_aload_n 1 129 dX9_readPart_128 rfl rfl ?_
                refine g_iconst (0) 130 dX9_readPart_129 rfl rfl ?_
                refine g_bipush (59) 132 dX9_readPart_130 rfl rfl ?_
                refine g_callV (mc1 := 0) (ms1 := 0) (b := a0) (rest := []) (av := [.int (0), .int (59)]) kX9_mustNumber 135 dX9_readPart_132 rfl rfl mbX9_208 imX9_mustNumber seX9_mustNumber gcl9.1 (Sm.k j3 s0.1) (Nat.le_of_ble_eq_true rfl) (Nat.zero_le _) (Nat.zero_le _) (uX9_mustNumber (N := N) (K := 0) (Mo.sm j3 s0) H (fun M5 jj H => ?_))
                have j5 : Sm M M5 := Sm.tr j3 jj
                show Go X (d + (n + 1) + 4) mc ms kX9_readPart Q 135 [(2, .int ((g_mi M (a0 + 9) ((g_mi M a0 19)).toNatClampNeg))), (0, .ref a0), (1, .int (x1))] [] M5 0 0
                refine g_aload_n 1 136 dX9_readPart_135 rfl rfl ?_
                refine g_getI 139 dX9_readPart_136 rfl flX9_212 (Sm.k j5 s0.1) ?_
                refine g_if_eq 163 142 dX9_readPart_139 rfl rfl (fun c9 => ?_) (fun c9 => ?_)
                · skip
                  replace H := H.1 c9
                  exact g_vret dX9_readPart_163 rfl (Nat.zero_le _) (Nat.zero_le _) (hR _ _ _ j5 H)
                · skip
                  replace H := H.2 c9
                  refine g_iload_n 0 143 dX9_readPart_142 rfl rfl ?_
                  refine g_bipush (17) 145 dX9_readPart_143 rfl rfl ?_
                  refine g_icmp_ne 163 148 dX9_readPart_145 rfl rfl (fun _ => ?_) (fun q => absurd (c7.symm.trans q) (by decide))
                  exact g_vret dX9_readPart_163 rfl (Nat.zero_le _) (Nat.zero_le _) (hR _ _ _ j5 H)
      · skip
        replace H := H.2 c3
        refine g_aload_n 1 81 dX9_readPart_80 rfl rfl ?_
        refine g_getR 84 (a0 + 10) dX9_readPart_81 rfl flX9_57 s0.1 s0.2.2.2.2.2.2.2.2.2.2.2.2.2.2.2.2.2.2.2.1 ?_
        refine g_aload_n 1 85 dX9_readPart_84 rfl rfl ?_
        refine g_getI 88 dX9_readPart_85 rfl flX9_186 s0.1 ?_
        refine h_iaload 89 ((g_mi M a0 19)).toNatClampNeg dX9_readPart_88 rfl rfl s0.2.2.2.2.2.2.2.2.2.2.2.2.2.2.2.2.2.2.2.2.1 b1 ?_
        refine g_sipush (1000) 92 dX9_readPart_89 rfl rfl ?_
        refine g_icmp_le 111 95 dX9_readPart_92 rfl rfl (fun c10 => ?_) (fun c10 => ?_)
        · skip
          replace H := H.1 c10
          refine g_aload_n 1 112 dX9_readPart_111 rfl rfl ?_
          refine g_callV (mc1 := 0) (ms1 := 0) (b := a0) (rest := []) (av := []) kX9_leaf 115 dX9_readPart_112 rfl rfl mbX9_244 imX9_leaf seX9_leaf gcl9.1 s0.1 (Nat.le_of_ble_eq_true rfl) (Nat.zero_le _) (Nat.zero_le _) (uX9_leaf (N := N) (K := 0) s0 H (fun M6 jj H => ?_))
          have j6 : Sm M M6 := jj
          show Go X (d + (n + 1) + 4) mc ms kX9_readPart Q 115 [(2, .int ((g_mi M (a0 + 9) ((g_mi M a0 19)).toNatClampNeg))), (0, .ref a0), (1, .int (x1))] [] M6 0 0
          refine g_aload_n 1 116 dX9_readPart_115 rfl rfl ?_
          refine g_getI 119 dX9_readPart_116 rfl flX9_212 (Sm.k j6 s0.1) ?_
          refine g_if_eq 135 122 dX9_readPart_119 rfl rfl (fun c11 => ?_) (fun c11 => ?_)
          · skip
            replace H := H.1 c11
            refine g_aload_n 1 136 dX9_readPart_135 rfl rfl ?_
            refine g_getI 139 dX9_readPart_136 rfl flX9_212 (Sm.k j6 s0.1) ?_
            refine g_if_eq 163 142 dX9_readPart_139 rfl rfl (fun _ => ?_) (fun q => absurd c11 q)
            exact g_vret dX9_readPart_163 rfl (Nat.zero_le _) (Nat.zero_le _) (hR _ _ _ j6 H)
          · skip
            replace H := H.2 c11
            refine g_iload_n 0 123 dX9_readPart_122 rfl rfl ?_
            refine g_bipush (12) 125 dX9_readPart_123 rfl rfl ?_
            refine g_icmp_ne 135 128 dX9_readPart_125 rfl rfl (fun _ => ?_) (fun q => absurd (c3.symm.trans q) (by decide))
            refine g_aload_n 1 136 dX9_readPart_135 rfl rfl ?_
            refine g_getI 139 dX9_readPart_136 rfl flX9_212 (Sm.k j6 s0.1) ?_
            refine g_if_eq 163 142 dX9_readPart_139 rfl rfl (fun q => absurd q c11) (fun _ => ?_)
            refine g_iload_n 0 143 dX9_readPart_142 rfl rfl ?_
            refine g_bipush (17) 145 dX9_readPart_143 rfl rfl ?_
            refine g_icmp_ne 163 148 dX9_readPart_145 rfl rfl (fun _ => ?_) (fun q => absurd (c3.symm.trans q) (by decide))
            exact g_vret dX9_readPart_163 rfl (Nat.zero_le _) (Nat.zero_le _) (hR _ _ _ j6 H)
        · skip
          replace H := H.2 c10
          refine g_iload_n 0 96 dX9_readPart_95 rfl rfl ?_
          refine g_aload_n 1 97 dX9_readPart_96 rfl rfl ?_
          refine g_getI 100 dX9_readPart_97 rfl flX9_238 s0.1 ?_
          refine g_icmp_lt 159 103 dX9_readPart_100 rfl rfl (fun c12 => ?_) (fun c12 => ?_)
          · skip
            replace H := H.1 c12
            refine g_aload_n 1 160 dX9_readPart_159 rfl rfl ?_
            refine g_callV (mc1 := 0) (ms1 := 0) (b := a0) (rest := []) (av := []) kX9_faults 163 dX9_readPart_160 rfl rfl mbX9_192 imX9_faults seX9_faults gcl9.1 s0.1 (Nat.le_of_ble_eq_true rfl) (Nat.zero_le _) (Nat.zero_le _) (uX9_faults (N := N) (K := 0) s0 H (fun M7 jj H => ?_))
            have j7 : Sm M M7 := jj
            show Go X (d + (n + 1) + 4) mc ms kX9_readPart Q 163 [(2, .int ((g_mi M (a0 + 9) ((g_mi M a0 19)).toNatClampNeg))), (0, .ref a0), (1, .int (x1))] [] M7 0 0
            exact g_vret dX9_readPart_163 rfl (Nat.zero_le _) (Nat.zero_le _) (hR _ _ _ j7 H)
          · skip
            replace H := H.2 c12
            refine g_iload_n 0 104 dX9_readPart_103 rfl rfl ?_
            refine g_aload_n 1 105 dX9_readPart_104 rfl rfl ?_
            refine g_getI 108 dX9_readPart_105 rfl flX9_241 s0.1 ?_
            refine g_icmp_gt 159 111 dX9_readPart_108 rfl rfl (fun c13 => ?_) (fun c13 => ?_)
            · skip
              replace H := H.1 c13
              refine g_aload_n 1 160 dX9_readPart_159 rfl rfl ?_
              refine g_callV (mc1 := 0) (ms1 := 0) (b := a0) (rest := []) (av := []) kX9_faults 163 dX9_readPart_160 rfl rfl mbX9_192 imX9_faults seX9_faults gcl9.1 s0.1 (Nat.le_of_ble_eq_true rfl) (Nat.zero_le _) (Nat.zero_le _) (uX9_faults (N := N) (K := 0) s0 H (fun M8 jj H => ?_))
              have j8 : Sm M M8 := jj
              show Go X (d + (n + 1) + 4) mc ms kX9_readPart Q 163 [(2, .int ((g_mi M (a0 + 9) ((g_mi M a0 19)).toNatClampNeg))), (0, .ref a0), (1, .int (x1))] [] M8 0 0
              exact g_vret dX9_readPart_163 rfl (Nat.zero_le _) (Nat.zero_le _) (hR _ _ _ j8 H)
            · skip
              replace H := H.2 c13
              refine g_aload_n 1 112 dX9_readPart_111 rfl rfl ?_
              refine g_callV (mc1 := 0) (ms1 := 0) (b := a0) (rest := []) (av := []) kX9_leaf 115 dX9_readPart_112 rfl rfl mbX9_244 imX9_leaf seX9_leaf gcl9.1 s0.1 (Nat.le_of_ble_eq_true rfl) (Nat.zero_le _) (Nat.zero_le _) (uX9_leaf (N := N) (K := 0) s0 H (fun M9 jj H => ?_))
              have j9 : Sm M M9 := jj
              show Go X (d + (n + 1) + 4) mc ms kX9_readPart Q 115 [(2, .int ((g_mi M (a0 + 9) ((g_mi M a0 19)).toNatClampNeg))), (0, .ref a0), (1, .int (x1))] [] M9 0 0
              refine g_aload_n 1 116 dX9_readPart_115 rfl rfl ?_
              refine g_getI 119 dX9_readPart_116 rfl flX9_212 (Sm.k j9 s0.1) ?_
              refine g_if_eq 135 122 dX9_readPart_119 rfl rfl (fun c14 => ?_) (fun c14 => ?_)
              · skip
                replace H := H.1 c14
                refine g_aload_n 1 136 dX9_readPart_135 rfl rfl ?_
                refine g_getI 139 dX9_readPart_136 rfl flX9_212 (Sm.k j9 s0.1) ?_
                refine g_if_eq 163 142 dX9_readPart_139 rfl rfl (fun _ => ?_) (fun q => absurd c14 q)
                exact g_vret dX9_readPart_163 rfl (Nat.zero_le _) (Nat.zero_le _) (hR _ _ _ j9 H)
              · skip
                replace H := H.2 c14
                refine g_iload_n 0 123 dX9_readPart_122 rfl rfl ?_
                refine g_bipush (12) 125 dX9_readPart_123 rfl rfl ?_
                refine g_icmp_ne 135 128 dX9_readPart_125 rfl rfl (fun _ => ?_) (fun q => absurd (c3.symm.trans q) (by decide))
                refine g_aload_n 1 136 dX9_readPart_135 rfl rfl ?_
                refine g_getI 139 dX9_readPart_136 rfl flX9_212 (Sm.k j9 s0.1) ?_
                refine g_if_eq 163 142 dX9_readPart_139 rfl rfl (fun q => absurd q c14) (fun _ => ?_)
                refine g_iload_n 0 143 dX9_readPart_142 rfl rfl ?_
                refine g_bipush (17) 145 dX9_readPart_143 rfl rfl ?_
                refine g_icmp_ne 163 148 dX9_readPart_145 rfl rfl (fun _ => ?_) (fun q => absurd (c3.symm.trans q) (by decide))
                exact g_vret dX9_readPart_163 rfl (Nat.zero_le _) (Nat.zero_le _) (hR _ _ _ j9 H)
    · skip
      replace H := H.2 c2
      refine g_iload_n 2 28 dX9_readPart_27 rfl rfl ?_
      refine g_bipush (8) 30 dX9_readPart_28 rfl rfl ?_
      refine g_icmp_ne 37 33 dX9_readPart_30 rfl rfl (fun c15 => ?_) (fun c15 => ?_)
      · skip
        replace H := H.1 c15
        refine g_aload_n 1 38 dX9_readPart_37 rfl rfl ?_
        refine g_callV (mc1 := 0) (ms1 := 0) (b := a0) (rest := []) (av := []) kX9_fine 41 dX9_readPart_38 rfl rfl mbX9_182 imX9_fine seX9_fine gcl9.1 s0.1 (Nat.le_of_ble_eq_true rfl) (Nat.zero_le _) (Nat.zero_le _) (tX9_fine s0 ?_)
        show Go X (d + (n + 1) + 4) mc ms kX9_readPart Q 41 [(2, .int ((g_mi M (a0 + 9) ((g_mi M a0 19)).toNatClampNeg))), (0, .ref a0), (1, .int (x1))] [.int ((fX9_fine M a0))] M 0 0
        generalize hv3 : (fX9_fine M a0) = v3
        replace H := H v3 hv3.symm
        refine g_if_ne 45 44 dX9_readPart_41 rfl rfl (fun c16 => ?_) (fun c16 => ?_)
        · skip
          replace H := H.1 c16
          refine g_aload_n 1 46 dX9_readPart_45 rfl rfl ?_
          refine g_dup 47 dX9_readPart_46 rfl rfl ?_
          refine g_getI 50 dX9_readPart_47 rfl flX9_186 s0.1 ?_
          refine g_iconst (1) 51 dX9_readPart_50 rfl rfl ?_
          refine g_iadd 52 dX9_readPart_51 rfl ?_
          refine g_putI 55 dX9_readPart_52 rfl flX9_186 s0.1 ?_
          generalize hM10 : (g_wi M a0 19 ((g_mi M a0 19) + 1)) = M10
          have j10 : Sm M M10 := by rw [← hM10]; exact (Sm.wi Sm.rf)
          replace H := H M10 hM10.symm
          refine g_aload_n 1 56 dX9_readPart_55 rfl rfl ?_
          refine g_iload_n 2 57 dX9_readPart_56 rfl rfl ?_
          refine g_iconst (1) 58 dX9_readPart_57 rfl rfl ?_
          refine g_iadd 59 dX9_readPart_58 rfl ?_
          refine g_callV (mc1 := 0) (ms1 := 0) (b := a0) (rest := []) (av := [.int ((x1 + 1))]) kX9_readSum 62 dX9_readPart_59 rfl rfl mbX9_198 imX9_readSum seX9_readSum gcl9.1 (Sm.k j10 s0.1) (Nat.le_of_ble_eq_true rfl) (Nat.zero_le _) (Nat.zero_le _) ((ih.2.2.2.2.2.2.1) d _ 0 0 _ M10 a0 (x1 + 1) 0 _ (by omega) (Mo.sm j10 s0) H (fun v4 w4 M11 jj H => ?_))
          have j11 : Sm M M11 := (Sm.tr j10 jj)
          show Go X (d + (n + 1) + 4) mc ms kX9_readPart Q 62 [(2, .int ((g_mi M (a0 + 9) ((g_mi M a0 19)).toNatClampNeg))), (0, .ref a0), (1, .int (x1))] [] M11 0 0
          refine g_aload_n 1 63 dX9_readPart_62 rfl rfl ?_
          refine g_bipush (93) 65 dX9_readPart_63 rfl rfl ?_
          refine g_callS (mc1 := 0) (ms1 := 0) (rest := [.ref a0]) (av := [.int (93)]) kX9_sign 68 dX9_readPart_65 rfl rfl mbX9_228 smX9_sign (Nat.le_of_ble_eq_true rfl) (Nat.zero_le _) (Nat.zero_le _) (tX9_sign  ?_)
          show Go X (d + (n + 1) + 4) mc ms kX9_readPart Q 68 [(2, .int ((g_mi M (a0 + 9) ((g_mi M a0 19)).toNatClampNeg))), (0, .ref a0), (1, .int (x1))] [.int ((fX9_sign 93)), .ref a0] M11 0 0
          generalize hv5 : (fX9_sign 93) = v5
          replace H := H v5 hv5.symm
          refine g_callV (mc1 := 0) (ms1 := 0) (b := a0) (rest := []) (av := [.int (v5)]) kX9_must 71 dX9_readPart_68 rfl rfl mbX9_202 imX9_must seX9_must gcl9.1 (Sm.k j11 s0.1) (Nat.le_of_ble_eq_true rfl) (Nat.zero_le _) (Nat.zero_le _) (uX9_must (N := N) (K := 0) (Mo.sm j11 s0) H (fun M12 jj H => ?_))
          have j12 : Sm M M12 := Sm.tr j11 jj
          show Go X (d + (n + 1) + 4) mc ms kX9_readPart Q 71 [(2, .int ((g_mi M (a0 + 9) ((g_mi M a0 19)).toNatClampNeg))), (0, .ref a0), (1, .int (x1))] [] M12 0 0
          refine g_goto 163 dX9_readPart_71 rfl ?_
          exact g_vret dX9_readPart_163 rfl (Nat.zero_le _) (Nat.zero_le _) (hR _ _ _ j12 H)
        · skip
          replace H := H.2 c16
          exact g_vret dX9_readPart_44 rfl (Nat.zero_le _) (Nat.zero_le _) (hR _ _ _ Sm.rf H)
      · skip
        replace H := H.2 c15
        refine g_aload_n 1 34 dX9_readPart_33 rfl rfl ?_
        refine g_callV (mc1 := 0) (ms1 := 0) (b := a0) (rest := []) (av := []) kX9_faults 37 dX9_readPart_34 rfl rfl mbX9_192 imX9_faults seX9_faults gcl9.1 s0.1 (Nat.le_of_ble_eq_true rfl) (Nat.zero_le _) (Nat.zero_le _) (uX9_faults (N := N) (K := 0) s0 H (fun M13 jj H => ?_))
        have j13 : Sm M M13 := jj
        show Go X (d + (n + 1) + 4) mc ms kX9_readPart Q 37 [(2, .int ((g_mi M (a0 + 9) ((g_mi M a0 19)).toNatClampNeg))), (0, .ref a0), (1, .int (x1))] [] M13 0 0
        refine g_aload_n 1 38 dX9_readPart_37 rfl rfl ?_
        refine g_callV (mc1 := 0) (ms1 := 0) (b := a0) (rest := []) (av := []) kX9_fine 41 dX9_readPart_38 rfl rfl mbX9_182 imX9_fine seX9_fine gcl9.1 (Sm.k j13 s0.1) (Nat.le_of_ble_eq_true rfl) (Nat.zero_le _) (Nat.zero_le _) (tX9_fine (Mo.sm j13 s0) ?_)
        show Go X (d + (n + 1) + 4) mc ms kX9_readPart Q 41 [(2, .int ((g_mi M (a0 + 9) ((g_mi M a0 19)).toNatClampNeg))), (0, .ref a0), (1, .int (x1))] [.int ((fX9_fine M13 a0))] M13 0 0
        generalize hv6 : (fX9_fine M13 a0) = v6
        replace H := H v6 hv6.symm
        refine g_if_ne 45 44 dX9_readPart_41 rfl rfl (fun c17 => ?_) (fun c17 => ?_)
        · skip
          replace H := H.1 c17
          refine g_aload_n 1 46 dX9_readPart_45 rfl rfl ?_
          refine g_dup 47 dX9_readPart_46 rfl rfl ?_
          refine g_getI 50 dX9_readPart_47 rfl flX9_186 (Sm.k j13 s0.1) ?_
          refine g_iconst (1) 51 dX9_readPart_50 rfl rfl ?_
          refine g_iadd 52 dX9_readPart_51 rfl ?_
          refine g_putI 55 dX9_readPart_52 rfl flX9_186 (Sm.k j13 s0.1) ?_
          generalize hM14 : (g_wi M13 a0 19 ((g_mi M13 a0 19) + 1)) = M14
          have j14 : Sm M M14 := by rw [← hM14]; exact (Sm.wi j13)
          replace H := H M14 hM14.symm
          refine g_aload_n 1 56 dX9_readPart_55 rfl rfl ?_
          refine g_iload_n 2 57 dX9_readPart_56 rfl rfl ?_
          refine g_iconst (1) 58 dX9_readPart_57 rfl rfl ?_
          refine g_iadd 59 dX9_readPart_58 rfl ?_
          refine g_callV (mc1 := 0) (ms1 := 0) (b := a0) (rest := []) (av := [.int ((x1 + 1))]) kX9_readSum 62 dX9_readPart_59 rfl rfl mbX9_198 imX9_readSum seX9_readSum gcl9.1 (Sm.k j14 s0.1) (Nat.le_of_ble_eq_true rfl) (Nat.zero_le _) (Nat.zero_le _) ((ih.2.2.2.2.2.2.1) d _ 0 0 _ M14 a0 (x1 + 1) 0 _ (by omega) (Mo.sm j14 s0) H (fun v7 w7 M15 jj H => ?_))
          have j15 : Sm M M15 := (Sm.tr j14 jj)
          show Go X (d + (n + 1) + 4) mc ms kX9_readPart Q 62 [(2, .int ((g_mi M (a0 + 9) ((g_mi M a0 19)).toNatClampNeg))), (0, .ref a0), (1, .int (x1))] [] M15 0 0
          refine g_aload_n 1 63 dX9_readPart_62 rfl rfl ?_
          refine g_bipush (93) 65 dX9_readPart_63 rfl rfl ?_
          refine g_callS (mc1 := 0) (ms1 := 0) (rest := [.ref a0]) (av := [.int (93)]) kX9_sign 68 dX9_readPart_65 rfl rfl mbX9_228 smX9_sign (Nat.le_of_ble_eq_true rfl) (Nat.zero_le _) (Nat.zero_le _) (tX9_sign  ?_)
          show Go X (d + (n + 1) + 4) mc ms kX9_readPart Q 68 [(2, .int ((g_mi M (a0 + 9) ((g_mi M a0 19)).toNatClampNeg))), (0, .ref a0), (1, .int (x1))] [.int ((fX9_sign 93)), .ref a0] M15 0 0
          generalize hv8 : (fX9_sign 93) = v8
          replace H := H v8 hv8.symm
          refine g_callV (mc1 := 0) (ms1 := 0) (b := a0) (rest := []) (av := [.int (v8)]) kX9_must 71 dX9_readPart_68 rfl rfl mbX9_202 imX9_must seX9_must gcl9.1 (Sm.k j15 s0.1) (Nat.le_of_ble_eq_true rfl) (Nat.zero_le _) (Nat.zero_le _) (uX9_must (N := N) (K := 0) (Mo.sm j15 s0) H (fun M16 jj H => ?_))
          have j16 : Sm M M16 := Sm.tr j15 jj
          show Go X (d + (n + 1) + 4) mc ms kX9_readPart Q 71 [(2, .int ((g_mi M (a0 + 9) ((g_mi M a0 19)).toNatClampNeg))), (0, .ref a0), (1, .int (x1))] [] M16 0 0
          refine g_goto 163 dX9_readPart_71 rfl ?_
          exact g_vret dX9_readPart_163 rfl (Nat.zero_le _) (Nat.zero_le _) (hR _ _ _ j16 H)
        · skip
          replace H := H.2 c17
          exact g_vret dX9_readPart_44 rfl (Nat.zero_le _) (Nat.zero_le _) (hR _ _ _ j13 H)
  · skip
    replace H := H.2 c1
    exact g_vret dX9_readPart_7 rfl (Nat.zero_le _) (Nat.zero_le _) (hR _ _ _ Sm.rf H)
theorem ulgMP {X : gX} (N : Nat) : ∀ n : Nat, UgMP X N n := by
  intro n
  induction n with
  | zero => exact ⟨fun _ _ _ _ _ _ _ _ _ _ _ _ h _ => h.elim, fun _ _ _ _ _ _ _ _ _ _ _ _ h _ => h.elim, fun _ _ _ _ _ _ _ _ _ _ _ _ h _ => h.elim, fun _ _ _ _ _ _ _ _ _ _ _ _ h _ => h.elim, fun _ _ _ _ _ _ _ _ _ _ _ _ h _ => h.elim, fun _ _ _ _ _ _ _ _ _ _ _ _ h _ => h.elim, fun _ _ _ _ _ _ _ _ _ _ _ _ h _ => h.elim, fun _ _ _ _ _ _ _ _ _ _ _ _ h _ => h.elim, fun _ _ _ _ _ _ _ _ _ _ _ _ h _ => h.elim, fun _ _ _ _ _ _ _ _ _ _ _ _ h _ => h.elim, fun _ _ _ _ _ _ _ _ _ _ _ _ h _ => h.elim⟩
  | succ n ih => exact ⟨uzX9_readTest_0 ih, uzX9_readTest_5 ih, uzX9_readBoth_0 ih, uzX9_readBoth_5 ih, uzX9_readPlain_0 ih, uzX9_readPlain_2 ih, uzX9_readSum_0 ih, uzX9_readSum_5 ih, uzX9_readTerm_0 ih, uzX9_readTerm_5 ih, uzX9_readPart_0 ih⟩
def pX9_readTest (N K : Nat) (M : gM) (a0 : Nat) (x1 : Int32) (R : gM → Prop) : Prop := qgMP N K 0 M a0 x1 0 (fun _ _ M1 => R M1)
theorem uX9_readTest {N K : Nat} {X : gX} {d mc ms : Nat} {Q : Option Value → gM → Prop} {M : gM} {a0 : Nat} {x1 : Int32} {R : gM → Prop} (s0 : Mo M a0) (H : pX9_readTest N K M a0 x1 R) (hR : ∀ M1, Sm M M1 → R M1 → Q none M1) : Cn X (d + K + 4) mc ms kX9_readTest [.ref a0, .int (x1)] M Q := by
  have ih := ulgMP (X := X) N K
  exact (ih.1) d _ mc ms Q M a0 x1 0 _ rfl s0 H (fun v w M1 j r => hR M1 j r)
def pX9_readBoth (N K : Nat) (M : gM) (a0 : Nat) (x1 : Int32) (R : gM → Prop) : Prop := qgMP N K 2 M a0 x1 0 (fun _ _ M1 => R M1)
theorem uX9_readBoth {N K : Nat} {X : gX} {d mc ms : Nat} {Q : Option Value → gM → Prop} {M : gM} {a0 : Nat} {x1 : Int32} {R : gM → Prop} (s0 : Mo M a0) (H : pX9_readBoth N K M a0 x1 R) (hR : ∀ M1, Sm M M1 → R M1 → Q none M1) : Cn X (d + K + 4) mc ms kX9_readBoth [.ref a0, .int (x1)] M Q := by
  have ih := ulgMP (X := X) N K
  exact (ih.2.2.1) d _ mc ms Q M a0 x1 0 _ rfl s0 H (fun v w M1 j r => hR M1 j r)
def pX9_readPlain (N K : Nat) (M : gM) (a0 : Nat) (x1 : Int32) (R : gM → Prop) : Prop := qgMP N K 4 M a0 x1 0 (fun _ _ M1 => R M1)
theorem uX9_readPlain {N K : Nat} {X : gX} {d mc ms : Nat} {Q : Option Value → gM → Prop} {M : gM} {a0 : Nat} {x1 : Int32} {R : gM → Prop} (s0 : Mo M a0) (H : pX9_readPlain N K M a0 x1 R) (hR : ∀ M1, Sm M M1 → R M1 → Q none M1) : Cn X (d + K + 4) mc ms kX9_readPlain [.ref a0, .int (x1)] M Q := by
  have ih := ulgMP (X := X) N K
  exact (ih.2.2.2.2.1) d _ mc ms Q M a0 x1 0 _ rfl s0 H (fun v w M1 j r => hR M1 j r)
def pX9_readSum (N K : Nat) (M : gM) (a0 : Nat) (x1 : Int32) (R : gM → Prop) : Prop := qgMP N K 6 M a0 x1 0 (fun _ _ M1 => R M1)
theorem uX9_readSum {N K : Nat} {X : gX} {d mc ms : Nat} {Q : Option Value → gM → Prop} {M : gM} {a0 : Nat} {x1 : Int32} {R : gM → Prop} (s0 : Mo M a0) (H : pX9_readSum N K M a0 x1 R) (hR : ∀ M1, Sm M M1 → R M1 → Q none M1) : Cn X (d + K + 4) mc ms kX9_readSum [.ref a0, .int (x1)] M Q := by
  have ih := ulgMP (X := X) N K
  exact (ih.2.2.2.2.2.2.1) d _ mc ms Q M a0 x1 0 _ rfl s0 H (fun v w M1 j r => hR M1 j r)
def pX9_readTerm (N K : Nat) (M : gM) (a0 : Nat) (x1 : Int32) (R : gM → Prop) : Prop := qgMP N K 8 M a0 x1 0 (fun _ _ M1 => R M1)
theorem uX9_readTerm {N K : Nat} {X : gX} {d mc ms : Nat} {Q : Option Value → gM → Prop} {M : gM} {a0 : Nat} {x1 : Int32} {R : gM → Prop} (s0 : Mo M a0) (H : pX9_readTerm N K M a0 x1 R) (hR : ∀ M1, Sm M M1 → R M1 → Q none M1) : Cn X (d + K + 4) mc ms kX9_readTerm [.ref a0, .int (x1)] M Q := by
  have ih := ulgMP (X := X) N K
  exact (ih.2.2.2.2.2.2.2.2.1) d _ mc ms Q M a0 x1 0 _ rfl s0 H (fun v w M1 j r => hR M1 j r)
def pX9_readPart (N K : Nat) (M : gM) (a0 : Nat) (x1 : Int32) (R : gM → Prop) : Prop := qgMP N K 10 M a0 x1 0 (fun _ _ M1 => R M1)
theorem uX9_readPart {N K : Nat} {X : gX} {d mc ms : Nat} {Q : Option Value → gM → Prop} {M : gM} {a0 : Nat} {x1 : Int32} {R : gM → Prop} (s0 : Mo M a0) (H : pX9_readPart N K M a0 x1 R) (hR : ∀ M1, Sm M M1 → R M1 → Q none M1) : Cn X (d + K + 4) mc ms kX9_readPart [.ref a0, .int (x1)] M Q := by
  have ih := ulgMP (X := X) N K
  exact (ih.2.2.2.2.2.2.2.2.2.2) d _ mc ms Q M a0 x1 0 _ rfl s0 H (fun v w M1 j r => hR M1 j r)
