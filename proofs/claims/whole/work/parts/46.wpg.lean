/-! X2_wordBetween -/
def pX2_wordBetween_0 (N K : Nat) (kp : Nat → gM → Nat → Int32 → Int32 → Int32 → Int32 → Int32 → Prop) (R : Int32 → Prop) (M : gM) (a0 : Nat) (x1 : Int32) (x2 : Int32) : Prop := kp 0 M a0 x1 x2 0 0 0
def pX2_wordBetween_8 (N K : Nat) (kp : Nat → gM → Nat → Int32 → Int32 → Int32 → Int32 → Int32 → Prop) (R : Int32 → Prop) (M : gM) (a0 : Nat) (x1 : Int32) (x2 : Int32) (x3 : Int32) (x4 : Int32) (x5 : Int32) : Prop := ((113 ≤ x5 → R 22) ∧ (¬ 113 ≤ x5 → (vp_in (x5) 113) ∧ (x5 < 113) ∧ (((g_vch x5) = 32 → ((¬ x4 = (x2 - x1) → kp 0 M a0 x1 x2 (x3 + 1) 0 (x5 + 1)) ∧ (x4 = (x2 - x1) → R x3))) ∧ (¬ (g_vch x5) = 32 → ((x4 = (-1) → kp 0 M a0 x1 x2 x3 (-1) (x5 + 1)) ∧ (¬ x4 = (-1) → ((x2 ≤ (x1 + x4) → kp 0 M a0 x1 x2 x3 (-1) (x5 + 1)) ∧ (¬ x2 ≤ (x1 + x4) → (vp_in ((x1 + x4)) 400) ∧ ((¬ (g_mi M (a0 + 1) ((x1 + x4)).toNatClampNeg) = (g_vch x5) → kp 0 M a0 x1 x2 x3 (-1) (x5 + 1)) ∧ ((g_mi M (a0 + 1) ((x1 + x4)).toNatClampNeg) = (g_vch x5) → kp 0 M a0 x1 x2 x3 (x4 + 1) (x5 + 1)))))))))))
def qX2_wordBetween (N K : Nat) (R : Int32 → Prop) : Nat → Nat → gM → Nat → Int32 → Int32 → Int32 → Int32 → Int32 → Prop
  | 0, _, _, _, _, _, _, _, _ => False
  | n + 1, _, M, a0, x1, x2, x3, x4, x5 => pX2_wordBetween_8 N K (qX2_wordBetween N K R n) R M a0 x1 x2 x3 x4 x5
def pX2_wordBetween (N K : Nat) (M : gM) (a0 : Nat) (x1 : Int32) (x2 : Int32) (R : Int32 → Prop) : Prop := pX2_wordBetween_0 N K (qX2_wordBetween N K R N) R M a0 x1 x2
def ULX2_wordBetween (X : gX) (d mc ms : Nat) (Q : Option Value → gM → Prop) (N K : Nat) (R : Int32 → Prop) (n : Nat) : Prop := (∀ (M : gM) (a0 : Nat) (x1 : Int32) (x2 : Int32) (x3 : Int32) (x4 : Int32) (x5 : Int32), Re M a0 → qX2_wordBetween N K R n 0 M a0 x1 x2 x3 x4 x5 → (∀ (v : Int32), R v → Q (some (.int v)) M) → Go X (d + 4) mc ms kX2_wordBetween Q 8 [(0, .ref a0), (1, .int (x1)), (2, .int (x2)), (3, .int (x3)), (4, .int (x4)), (5, .int (x5))] [] M 0 0)
set_option maxRecDepth 10000 in
theorem ulX2_wordBetween {X : gX} {d mc ms : Nat} {Q : Option Value → gM → Prop} {N K : Nat} {R : Int32 → Prop} : ∀ n : Nat, ULX2_wordBetween X d mc ms Q N K R n := by
  intro n
  induction n with
  | zero => exact fun _ _ _ _ _ _ _ _ h _ => h.elim
  | succ n ih =>
    intro M a0 x1 x2 x3 x4 x5 s0 H hR
    rw [qX2_wordBetween] at H
    unfold pX2_wordBetween_8 at H
    refine g_iload 5 10 dX2_wordBetween_8 rfl rfl ?_
    refine g_ldcS 12 dX2_wordBetween_10 rfl rfl ?_
    refine g_callVS (rest := [.int (x5)]) (av := []) kJ0_length_8abf5 15 dX2_wordBetween_12 rfl rfl mbX2_91 imJ0_length_8abf5 seJ0_length_8abf5 (Nat.le_of_ble_eq_true rfl) (Nat.zero_le _) (Nat.zero_le _) (tJ0_len ?_)
    show Go X (d + 4) mc ms kX2_wordBetween Q 15 [(0, .ref a0), (1, .int (x1)), (2, .int (x2)), (3, .int (x3)), (4, .int (x4)), (5, .int (x5))] [.int (113), .int (x5)] M 0 0
    refine g_icmp_ge 109 18 dX2_wordBetween_15 rfl rfl (fun c1 => ?_) (fun c1 => ?_)
    · skip
      replace H := H.1 c1
      refine g_bipush (22) 111 dX2_wordBetween_109 rfl rfl ?_
      exact g_iret dX2_wordBetween_111 rfl (Nat.zero_le _) (Nat.zero_le _) (hR _ H)
    · skip
      replace H := H.2 c1
      refine g_ldcS 20 dX2_wordBetween_18 rfl rfl ?_
      refine g_iload 5 22 dX2_wordBetween_20 rfl rfl ?_
      obtain ⟨b1, H⟩ := H
      obtain ⟨b2, H⟩ := H
      refine g_callVS (rest := []) (av := [.int (x5)]) kJ0_charAt_5068e 25 dX2_wordBetween_22 rfl rfl mbX2_96 imJ0_charAt_5068e seJ0_charAt_5068e (Nat.le_of_ble_eq_true rfl) (Nat.zero_le _) (Nat.zero_le _) (tJ0_char b1 b2 ?_)
      show Go X (d + 4) mc ms kX2_wordBetween Q 25 [(0, .ref a0), (1, .int (x1)), (2, .int (x2)), (3, .int (x3)), (4, .int (x4)), (5, .int (x5))] [.int ((g_vch x5))] M 0 0
      refine g_istore 27 [(6, .int ((g_vch x5))), (0, .ref a0), (1, .int (x1)), (2, .int (x2)), (3, .int (x3)), (4, .int (x4)), (5, .int (x5))] dX2_wordBetween_25 rfl (Nat.le_of_ble_eq_true rfl) rfl ?_
      refine g_iload 0 29 dX2_wordBetween_27 rfl rfl ?_
      refine g_bipush (32) 31 dX2_wordBetween_29 rfl rfl ?_
      refine g_icmp_eq 87 34 dX2_wordBetween_31 rfl rfl (fun c2 => ?_) (fun c2 => ?_)
      · skip
        replace H := H.1 c2
        refine g_iload 5 89 dX2_wordBetween_87 rfl rfl ?_
        refine g_iload_n 3 90 dX2_wordBetween_89 rfl rfl ?_
        refine g_iload_n 2 91 dX2_wordBetween_90 rfl rfl ?_
        refine g_isub 92 dX2_wordBetween_91 rfl ?_
        refine g_icmp_ne 97 95 dX2_wordBetween_92 rfl rfl (fun c3 => ?_) (fun c3 => ?_)
        · skip
          replace H := H.1 c3
          refine g_iinc _ 4 100 [(3, .int ((x3 + 1))), (6, .int ((g_vch x5))), (0, .ref a0), (1, .int (x1)), (2, .int (x2)), (4, .int (x4)), (5, .int (x5))] dX2_wordBetween_97 rfl rfl rfl (Nat.le_of_ble_eq_true rfl) rfl ?_
          refine g_iconst (0) 101 dX2_wordBetween_100 rfl rfl ?_
          refine g_istore 103 [(4, .int (0)), (3, .int ((x3 + 1))), (6, .int ((g_vch x5))), (0, .ref a0), (1, .int (x1)), (2, .int (x2)), (5, .int (x5))] dX2_wordBetween_101 rfl (Nat.le_of_ble_eq_true rfl) rfl ?_
          refine g_iinc _ 6 106 [(5, .int ((x5 + 1))), (4, .int (0)), (3, .int ((x3 + 1))), (6, .int ((g_vch x5))), (0, .ref a0), (1, .int (x1)), (2, .int (x2))] dX2_wordBetween_103 rfl rfl rfl (Nat.le_of_ble_eq_true rfl) rfl ?_
          refine g_goto 8 dX2_wordBetween_106 rfl ?_
          exact g_sub [4, 5, 6, 2, 1, 0] _ rfl (ih M a0 x1 x2 (x3 + 1) 0 (x5 + 1) s0 H (fun v r => hR v r))
        · skip
          replace H := H.2 c3
          refine g_iload_n 4 96 dX2_wordBetween_95 rfl rfl ?_
          exact g_iret dX2_wordBetween_96 rfl (Nat.zero_le _) (Nat.zero_le _) (hR _ H)
      · skip
        replace H := H.2 c2
        refine g_iload 5 36 dX2_wordBetween_34 rfl rfl ?_
        refine g_iconst ((-1)) 37 dX2_wordBetween_36 rfl rfl ?_
        refine g_icmp_eq 66 40 dX2_wordBetween_37 rfl rfl (fun c4 => ?_) (fun c4 => ?_)
        · skip
          replace H := H.1 c4
          refine g_iconst (0) 67 dX2_wordBetween_66 rfl rfl ?_
          refine g_istore 69 [(7, .int (0)), (6, .int ((g_vch x5))), (0, .ref a0), (1, .int (x1)), (2, .int (x2)), (3, .int (x3)), (4, .int (x4)), (5, .int (x5))] dX2_wordBetween_67 rfl (Nat.le_of_ble_eq_true rfl) rfl ?_
          refine g_iload 0 71 dX2_wordBetween_69 rfl rfl ?_
          refine g_if_eq 81 74 dX2_wordBetween_71 rfl rfl (fun _ => ?_) (fun q => absurd q (by decide))
          refine g_iconst ((-1)) 82 dX2_wordBetween_81 rfl rfl ?_
          refine g_istore 84 [(4, .int ((-1))), (7, .int (0)), (6, .int ((g_vch x5))), (0, .ref a0), (1, .int (x1)), (2, .int (x2)), (3, .int (x3)), (5, .int (x5))] dX2_wordBetween_82 rfl (Nat.le_of_ble_eq_true rfl) rfl ?_
          refine g_goto 103 dX2_wordBetween_84 rfl ?_
          refine g_iinc _ 7 106 [(5, .int ((x5 + 1))), (4, .int ((-1))), (7, .int (0)), (6, .int ((g_vch x5))), (0, .ref a0), (1, .int (x1)), (2, .int (x2)), (3, .int (x3))] dX2_wordBetween_103 rfl rfl rfl (Nat.le_of_ble_eq_true rfl) rfl ?_
          refine g_goto 8 dX2_wordBetween_106 rfl ?_
          exact g_sub [4, 5, 6, 7, 1, 0] _ rfl (ih M a0 x1 x2 x3 (-1) (x5 + 1) s0 H (fun v r => hR v r))
        · skip
          replace H := H.2 c4
          refine g_iload_n 2 41 dX2_wordBetween_40 rfl rfl ?_
          refine g_iload 5 43 dX2_wordBetween_41 rfl rfl ?_
          refine g_iadd 44 dX2_wordBetween_43 rfl ?_
          refine g_iload_n 3 45 dX2_wordBetween_44 rfl rfl ?_
          refine g_icmp_ge 66 48 dX2_wordBetween_45 rfl rfl (fun c5 => ?_) (fun c5 => ?_)
          · skip
            replace H := H.1 c5
            refine g_iconst (0) 67 dX2_wordBetween_66 rfl rfl ?_
            refine g_istore 69 [(7, .int (0)), (6, .int ((g_vch x5))), (0, .ref a0), (1, .int (x1)), (2, .int (x2)), (3, .int (x3)), (4, .int (x4)), (5, .int (x5))] dX2_wordBetween_67 rfl (Nat.le_of_ble_eq_true rfl) rfl ?_
            refine g_iload 0 71 dX2_wordBetween_69 rfl rfl ?_
            refine g_if_eq 81 74 dX2_wordBetween_71 rfl rfl (fun _ => ?_) (fun q => absurd q (by decide))
            refine g_iconst ((-1)) 82 dX2_wordBetween_81 rfl rfl ?_
            refine g_istore 84 [(4, .int ((-1))), (7, .int (0)), (6, .int ((g_vch x5))), (0, .ref a0), (1, .int (x1)), (2, .int (x2)), (3, .int (x3)), (5, .int (x5))] dX2_wordBetween_82 rfl (Nat.le_of_ble_eq_true rfl) rfl ?_
            refine g_goto 103 dX2_wordBetween_84 rfl ?_
            refine g_iinc _ 7 106 [(5, .int ((x5 + 1))), (4, .int ((-1))), (7, .int (0)), (6, .int ((g_vch x5))), (0, .ref a0), (1, .int (x1)), (2, .int (x2)), (3, .int (x3))] dX2_wordBetween_103 rfl rfl rfl (Nat.le_of_ble_eq_true rfl) rfl ?_
            refine g_goto 8 dX2_wordBetween_106 rfl ?_
            exact g_sub [4, 5, 6, 7, 1, 0] _ rfl (ih M a0 x1 x2 x3 (-1) (x5 + 1) s0 H (fun v r => hR v r))
          · skip
            replace H := H.2 c5
            refine g_aload_n 1 49 dX2_wordBetween_48 rfl rfl ?_
            refine g_getR 52 (a0 + 1) dX2_wordBetween_49 rfl flX2_9 s0.1 s0.2.1 ?_
            refine g_iload_n 2 53 dX2_wordBetween_52 rfl rfl ?_
            refine g_iload 5 55 dX2_wordBetween_53 rfl rfl ?_
            refine g_iadd 56 dX2_wordBetween_55 rfl ?_
            obtain ⟨b3, H⟩ := H
            refine h_iaload 57 ((x1 + x4)).toNatClampNeg dX2_wordBetween_56 rfl rfl s0.2.2.1 b3 ?_
            refine g_iload 0 59 dX2_wordBetween_57 rfl rfl ?_
            refine g_icmp_ne 66 62 dX2_wordBetween_59 rfl rfl (fun c6 => ?_) (fun c6 => ?_)
            · skip
              replace H := H.1 c6
              refine g_iconst (0) 67 dX2_wordBetween_66 rfl rfl ?_
              refine g_istore 69 [(7, .int (0)), (6, .int ((g_vch x5))), (0, .ref a0), (1, .int (x1)), (2, .int (x2)), (3, .int (x3)), (4, .int (x4)), (5, .int (x5))] dX2_wordBetween_67 rfl (Nat.le_of_ble_eq_true rfl) rfl ?_
              refine g_iload 0 71 dX2_wordBetween_69 rfl rfl ?_
              refine g_if_eq 81 74 dX2_wordBetween_71 rfl rfl (fun _ => ?_) (fun q => absurd q (by decide))
              refine g_iconst ((-1)) 82 dX2_wordBetween_81 rfl rfl ?_
              refine g_istore 84 [(4, .int ((-1))), (7, .int (0)), (6, .int ((g_vch x5))), (0, .ref a0), (1, .int (x1)), (2, .int (x2)), (3, .int (x3)), (5, .int (x5))] dX2_wordBetween_82 rfl (Nat.le_of_ble_eq_true rfl) rfl ?_
              refine g_goto 103 dX2_wordBetween_84 rfl ?_
              refine g_iinc _ 7 106 [(5, .int ((x5 + 1))), (4, .int ((-1))), (7, .int (0)), (6, .int ((g_vch x5))), (0, .ref a0), (1, .int (x1)), (2, .int (x2)), (3, .int (x3))] dX2_wordBetween_103 rfl rfl rfl (Nat.le_of_ble_eq_true rfl) rfl ?_
              refine g_goto 8 dX2_wordBetween_106 rfl ?_
              exact g_sub [4, 5, 6, 7, 1, 0] _ rfl (ih M a0 x1 x2 x3 (-1) (x5 + 1) s0 H (fun v r => hR v r))
            · skip
              replace H := H.2 c6
              refine g_iconst (1) 63 dX2_wordBetween_62 rfl rfl ?_
              refine g_goto 67 dX2_wordBetween_63 rfl ?_
              refine g_istore 69 [(7, .int (1)), (6, .int ((g_vch x5))), (0, .ref a0), (1, .int (x1)), (2, .int (x2)), (3, .int (x3)), (4, .int (x4)), (5, .int (x5))] dX2_wordBetween_67 rfl (Nat.le_of_ble_eq_true rfl) rfl ?_
              refine g_iload 0 71 dX2_wordBetween_69 rfl rfl ?_
              refine g_if_eq 81 74 dX2_wordBetween_71 rfl rfl (fun q => absurd q (by decide)) (fun _ => ?_)
              refine g_iload 6 76 dX2_wordBetween_74 rfl rfl ?_
              refine g_iconst (1) 77 dX2_wordBetween_76 rfl rfl ?_
              refine g_iadd 78 dX2_wordBetween_77 rfl ?_
              refine g_goto 82 dX2_wordBetween_78 rfl ?_
              refine g_istore 84 [(4, .int ((x4 + 1))), (7, .int (1)), (6, .int ((g_vch x5))), (0, .ref a0), (1, .int (x1)), (2, .int (x2)), (3, .int (x3)), (5, .int (x5))] dX2_wordBetween_82 rfl (Nat.le_of_ble_eq_true rfl) rfl ?_
              refine g_goto 103 dX2_wordBetween_84 rfl ?_
              refine g_iinc _ 7 106 [(5, .int ((x5 + 1))), (4, .int ((x4 + 1))), (7, .int (1)), (6, .int ((g_vch x5))), (0, .ref a0), (1, .int (x1)), (2, .int (x2)), (3, .int (x3))] dX2_wordBetween_103 rfl rfl rfl (Nat.le_of_ble_eq_true rfl) rfl ?_
              refine g_goto 8 dX2_wordBetween_106 rfl ?_
              exact g_sub [4, 5, 6, 7, 1, 0] _ rfl (ih M a0 x1 x2 x3 (x4 + 1) (x5 + 1) s0 H (fun v r => hR v r))
set_option maxRecDepth 10000 in
theorem uX2_wordBetween {N K : Nat} {X : gX} {d mc ms : Nat} {Q : Option Value → gM → Prop} {M : gM} {a0 : Nat} {x1 : Int32} {x2 : Int32} {R : Int32 → Prop} (s0 : Re M a0) (H : pX2_wordBetween N K M a0 x1 x2 R) (hR : ∀ (v : Int32), R v → Q (some (.int v)) M) : Cn X (d + 4) mc ms kX2_wordBetween [.ref a0, .int (x1), .int (x2)] M Q := by
  have ih := ulX2_wordBetween (X := X) (d := d) (mc := mc) (ms := ms) (Q := Q) (N := N) (K := K) (R := R) N
  unfold pX2_wordBetween pX2_wordBetween_0 at H
  refine g_meth rfl rfl (Nat.le_of_ble_eq_true rfl) rfl ?_
  refine g_iconst (0) 1 dX2_wordBetween_0 rfl rfl ?_
  refine g_istore_n 2 [(3, .int (0)), (0, .ref a0), (1, .int (x1)), (2, .int (x2))] dX2_wordBetween_1 rfl (Nat.le_of_ble_eq_true rfl) rfl ?_
  refine g_iconst (0) 3 dX2_wordBetween_2 rfl rfl ?_
  refine g_istore 5 [(4, .int (0)), (3, .int (0)), (0, .ref a0), (1, .int (x1)), (2, .int (x2))] dX2_wordBetween_3 rfl (Nat.le_of_ble_eq_true rfl) rfl ?_
  refine g_iconst (0) 6 dX2_wordBetween_5 rfl rfl ?_
  refine g_istore 8 [(5, .int (0)), (4, .int (0)), (3, .int (0)), (0, .ref a0), (1, .int (x1)), (2, .int (x2))] dX2_wordBetween_6 rfl (Nat.le_of_ble_eq_true rfl) rfl ?_
  exact g_sub [3, 4, 5, 2, 1, 0] _ rfl (ih M a0 x1 x2 0 0 0 s0 H (fun v r => hR v r))
/-! X2_splitIntoTokens -/
def pX2_splitIntoTokens_0 (N K : Nat) (kp : Nat → gM → Nat → Int32 → Int32 → Int32 → Int32 → Prop) (R : gM → Prop) (M : gM) (a0 : Nat) : Prop := kp 0 M a0 0 0 0 0
def pX2_splitIntoTokens_4 (N K : Nat) (kp : Nat → gM → Nat → Int32 → Int32 → Int32 → Int32 → Prop) (R : gM → Prop) (M : gM) (a0 : Nat) (x1 : Int32) (x2 : Int32) : Prop := (((g_mi M a0 5) ≤ x2 → (vp_in (x1) 401) ∧ ∀ M1 : gM, M1 = (g_wi M (a0 + 12) (x1).toNatClampNeg (g_mi M a0 5)) → (vp_in (x1) 401) ∧ ∀ M2 : gM, M2 = (g_wi M1 (a0 + 13) (x1).toNatClampNeg (-1)) → (vp_in (x1) 401) ∧ ∀ M3 : gM, M3 = (g_wi M2 (a0 + 11) (x1).toNatClampNeg 24) → R M3) ∧ (¬ (g_mi M a0 5) ≤ x2 → (vp_in (x2) 400) ∧ ∀ v1 : Int32, v1 = (fX2_kindOf (g_mi M (a0 + 1) (x2).toNatClampNeg)) → kp 1 M a0 x1 x2 (x2 + 1) v1))
def pX2_splitIntoTokens_27 (N K : Nat) (kp : Nat → gM → Nat → Int32 → Int32 → Int32 → Int32 → Prop) (R : gM → Prop) (M : gM) (a0 : Nat) (x1 : Int32) (x2 : Int32) (x3 : Int32) (x4 : Int32) : Prop := ((x4 = 25 → (vp_in (x2) 400) ∧ (((g_mi M (a0 + 1) (x2).toNatClampNeg) = 32 → kp 0 M a0 x1 x3 0 0) ∧ (¬ (g_mi M (a0 + 1) (x2).toNatClampNeg) = 32 → (vp_in (x1) 401) ∧ ∀ M1 : gM, M1 = (g_wi M (a0 + 12) (x1).toNatClampNeg x2) → (vp_in (x1) 401) ∧ ∀ M2 : gM, M2 = (g_wi M1 (a0 + 13) (x1).toNatClampNeg (-1)) → (vp_in (x2) 400) ∧ (vp_in (x1) 401) ∧ ∀ M3 : gM, M3 = (g_wi M2 (a0 + 11) (x1).toNatClampNeg (25 + (g_mi M2 (a0 + 1) (x2).toNatClampNeg))) → kp 0 M3 a0 (x1 + 1) x3 0 0))) ∧ (¬ x4 = 25 → (((g_mi M a0 5) ≤ x3 → (vp_in (x2) 400) ∧ (((g_mi M (a0 + 1) (x2).toNatClampNeg) = 32 → kp 0 M a0 x1 x3 0 0) ∧ (¬ (g_mi M (a0 + 1) (x2).toNatClampNeg) = 32 → (vp_in (x1) 401) ∧ ∀ M4 : gM, M4 = (g_wi M (a0 + 12) (x1).toNatClampNeg x2) → ((¬ x4 = 23 → (vp_in (x1) 401) ∧ ∀ M5 : gM, M5 = (g_wi M4 (a0 + 13) (x1).toNatClampNeg (-1)) → ((¬ x4 = 22 → (vp_in (x2) 400) ∧ (vp_in (x1) 401) ∧ ∀ M6 : gM, M6 = (g_wi M5 (a0 + 11) (x1).toNatClampNeg (25 + (g_mi M5 (a0 + 1) (x2).toNatClampNeg))) → kp 0 M6 a0 (x1 + 1) x3 0 0) ∧ (x4 = 22 → pX2_wordBetween N K M5 a0 x2 x3 (fun v1 => (vp_in (x1) 401) ∧ ∀ M7 : gM, M7 = (g_wi M5 (a0 + 11) (x1).toNatClampNeg v1) → kp 0 M7 a0 (x1 + 1) x3 0 0)))) ∧ (x4 = 23 → pX2_numberBetween N K M4 a0 x2 x3 (fun v2 => (vp_in (x1) 401) ∧ ∀ M8 : gM, M8 = (g_wi M4 (a0 + 13) (x1).toNatClampNeg v2) → (vp_in (x1) 401) ∧ ∀ M9 : gM, M9 = (g_wi M8 (a0 + 11) (x1).toNatClampNeg 23) → kp 0 M9 a0 (x1 + 1) x3 0 0)))))) ∧ (¬ (g_mi M a0 5) ≤ x3 → (vp_in (x3) 400) ∧ ∀ v3 : Int32, v3 = (fX2_kindOf (g_mi M (a0 + 1) (x3).toNatClampNeg)) → ((¬ v3 = x4 → (vp_in (x2) 400) ∧ (((g_mi M (a0 + 1) (x2).toNatClampNeg) = 32 → kp 0 M a0 x1 x3 0 0) ∧ (¬ (g_mi M (a0 + 1) (x2).toNatClampNeg) = 32 → (vp_in (x1) 401) ∧ ∀ M10 : gM, M10 = (g_wi M (a0 + 12) (x1).toNatClampNeg x2) → ((¬ x4 = 23 → (vp_in (x1) 401) ∧ ∀ M11 : gM, M11 = (g_wi M10 (a0 + 13) (x1).toNatClampNeg (-1)) → ((¬ x4 = 22 → (vp_in (x2) 400) ∧ (vp_in (x1) 401) ∧ ∀ M12 : gM, M12 = (g_wi M11 (a0 + 11) (x1).toNatClampNeg (25 + (g_mi M11 (a0 + 1) (x2).toNatClampNeg))) → kp 0 M12 a0 (x1 + 1) x3 0 0) ∧ (x4 = 22 → pX2_wordBetween N K M11 a0 x2 x3 (fun v4 => (vp_in (x1) 401) ∧ ∀ M13 : gM, M13 = (g_wi M11 (a0 + 11) (x1).toNatClampNeg v4) → kp 0 M13 a0 (x1 + 1) x3 0 0)))) ∧ (x4 = 23 → pX2_numberBetween N K M10 a0 x2 x3 (fun v5 => (vp_in (x1) 401) ∧ ∀ M14 : gM, M14 = (g_wi M10 (a0 + 13) (x1).toNatClampNeg v5) → (vp_in (x1) 401) ∧ ∀ M15 : gM, M15 = (g_wi M14 (a0 + 11) (x1).toNatClampNeg 23) → kp 0 M15 a0 (x1 + 1) x3 0 0)))))) ∧ (v3 = x4 → kp 1 M a0 x1 x2 (x3 + 1) x4))))))
def qX2_splitIntoTokens (N K : Nat) (R : gM → Prop) : Nat → Nat → gM → Nat → Int32 → Int32 → Int32 → Int32 → Prop
  | 0, _, _, _, _, _, _, _ => False
  | n + 1, h, M, a0, x1, x2, x3, x4 => if h = 0 then pX2_splitIntoTokens_4 N K (qX2_splitIntoTokens N K R n) R M a0 x1 x2 else pX2_splitIntoTokens_27 N K (qX2_splitIntoTokens N K R n) R M a0 x1 x2 x3 x4
def pX2_splitIntoTokens (N K : Nat) (M : gM) (a0 : Nat) (R : gM → Prop) : Prop := pX2_splitIntoTokens_0 N K (qX2_splitIntoTokens N K R N) R M a0
def ULX2_splitIntoTokens (X : gX) (d mc ms : Nat) (Q : Option Value → gM → Prop) (N K : Nat) (R : gM → Prop) (n : Nat) : Prop := (∀ (M : gM) (a0 : Nat) (x1 : Int32) (x2 : Int32) (x3 : Int32) (x4 : Int32), Re M a0 → qX2_splitIntoTokens N K R n 0 M a0 x1 x2 x3 x4 → (∀ (M1 : gM), Sm M M1 → R M1 → Q none M1) → Go X (d + 5) mc ms kX2_splitIntoTokens Q 4 [(0, .ref a0), (1, .int (x1)), (2, .int (x2))] [] M 0 0) ∧ (∀ (M : gM) (a0 : Nat) (x1 : Int32) (x2 : Int32) (x3 : Int32) (x4 : Int32), Re M a0 → qX2_splitIntoTokens N K R n 1 M a0 x1 x2 x3 x4 → (∀ (M1 : gM), Sm M M1 → R M1 → Q none M1) → Go X (d + 5) mc ms kX2_splitIntoTokens Q 27 [(0, .ref a0), (1, .int (x1)), (2, .int (x2)), (3, .int (x3)), (4, .int (x4))] [] M 0 0)
set_option maxRecDepth 10000 in
theorem ulX2_splitIntoTokens {X : gX} {d mc ms : Nat} {Q : Option Value → gM → Prop} {N K : Nat} {R : gM → Prop} : ∀ n : Nat, ULX2_splitIntoTokens X d mc ms Q N K R n := by
  intro n
  induction n with
  | zero => exact ⟨fun _ _ _ _ _ _ _ h _ => h.elim, fun _ _ _ _ _ _ _ h _ => h.elim⟩
  | succ n ih =>
    refine ⟨?_, ?_⟩
    · intro M a0 x1 x2 x3 x4 s0 H hR
      rw [qX2_splitIntoTokens, if_pos (show (0 : Nat) = 0 from rfl)] at H
      unfold pX2_splitIntoTokens_4 at H
      refine g_iload_n 2 5 dX2_splitIntoTokens_4 rfl rfl ?_
      refine g_aload_n 0 6 dX2_splitIntoTokens_5 rfl rfl ?_
      refine g_getI 9 dX2_splitIntoTokens_6 rfl flX2_44 s0.1 ?_
      refine g_icmp_ge 154 12 dX2_splitIntoTokens_9 rfl rfl (fun c1 => ?_) (fun c1 => ?_)
      · skip
        replace H := H.1 c1
        refine g_aload_n 0 155 dX2_splitIntoTokens_154 rfl rfl ?_
        refine g_getR 158 (a0 + 12) dX2_splitIntoTokens_155 rfl flX2_38 s0.1 s0.2.2.2.2.2.2.2.2.2.2.2.1 ?_
        refine g_iload_n 1 159 dX2_splitIntoTokens_158 rfl rfl ?_
        refine g_aload_n 0 160 dX2_splitIntoTokens_159 rfl rfl ?_
        refine g_getI 163 dX2_splitIntoTokens_160 rfl flX2_44 s0.1 ?_
        obtain ⟨b1, H⟩ := H
        refine h_iastore 164 (x1).toNatClampNeg dX2_splitIntoTokens_163 rfl rfl s0.2.2.2.2.2.2.2.2.2.2.2.2.1 b1 ?_
        generalize hM1 : (g_wi M (a0 + 12) (x1).toNatClampNeg (g_mi M a0 5)) = M1
        have j1 : Sm M M1 := by rw [← hM1]; exact (Sm.wi Sm.rf)
        replace H := H M1 hM1.symm
        refine g_aload_n 0 165 dX2_splitIntoTokens_164 rfl rfl ?_
        refine g_getR 168 (a0 + 13) dX2_splitIntoTokens_165 rfl flX2_41 (Sm.k j1 s0.1) (Sm.r j1 s0.2.2.2.2.2.2.2.2.2.2.2.2.2.1) ?_
        refine g_iload_n 1 169 dX2_splitIntoTokens_168 rfl rfl ?_
        refine g_iconst ((-1)) 170 dX2_splitIntoTokens_169 rfl rfl ?_
        obtain ⟨b2, H⟩ := H
        refine h_iastore 171 (x1).toNatClampNeg dX2_splitIntoTokens_170 rfl rfl (Sm.k j1 s0.2.2.2.2.2.2.2.2.2.2.2.2.2.2) b2 ?_
        generalize hM2 : (g_wi M1 (a0 + 13) (x1).toNatClampNeg (-1)) = M2
        have j2 : Sm M M2 := by rw [← hM2]; exact (Sm.wi j1)
        replace H := H M2 hM2.symm
        refine g_aload_n 0 172 dX2_splitIntoTokens_171 rfl rfl ?_
        refine g_getR 175 (a0 + 11) dX2_splitIntoTokens_172 rfl flX2_35 (Sm.k j2 s0.1) (Sm.r j2 s0.2.2.2.2.2.2.2.2.2.1) ?_
        refine g_iload_n 1 176 dX2_splitIntoTokens_175 rfl rfl ?_
        refine g_bipush (24) 178 dX2_splitIntoTokens_176 rfl rfl ?_
        obtain ⟨b3, H⟩ := H
        refine h_iastore 179 (x1).toNatClampNeg dX2_splitIntoTokens_178 rfl rfl (Sm.k j2 s0.2.2.2.2.2.2.2.2.2.2.1) b3 ?_
        generalize hM3 : (g_wi M2 (a0 + 11) (x1).toNatClampNeg 24) = M3
        have j3 : Sm M M3 := by rw [← hM3]; exact (Sm.wi j2)
        replace H := H M3 hM3.symm
        exact g_vret dX2_splitIntoTokens_179 rfl (Nat.zero_le _) (Nat.zero_le _) (hR _ j3 H)
      · skip
        replace H := H.2 c1
        refine g_iload_n 2 13 dX2_splitIntoTokens_12 rfl rfl ?_
        refine g_iconst (1) 14 dX2_splitIntoTokens_13 rfl rfl ?_
        refine g_iadd 15 dX2_splitIntoTokens_14 rfl ?_
        refine g_istore_n 16 [(3, .int ((x2 + 1))), (0, .ref a0), (1, .int (x1)), (2, .int (x2))] dX2_splitIntoTokens_15 rfl (Nat.le_of_ble_eq_true rfl) rfl ?_
        refine g_aload_n 1 17 dX2_splitIntoTokens_16 rfl rfl ?_
        refine g_getR 20 (a0 + 1) dX2_splitIntoTokens_17 rfl flX2_9 s0.1 s0.2.1 ?_
        refine g_iload_n 3 21 dX2_splitIntoTokens_20 rfl rfl ?_
        obtain ⟨b4, H⟩ := H
        refine h_iaload 22 (x2).toNatClampNeg dX2_splitIntoTokens_21 rfl rfl s0.2.2.1 b4 ?_
        refine g_callS (mc1 := 0) (ms1 := 0) (rest := []) (av := [.int ((g_mi M (a0 + 1) (x2).toNatClampNeg))]) kX2_kindOf 25 dX2_splitIntoTokens_22 rfl rfl mbX2_78 smX2_kindOf (Nat.le_of_ble_eq_true rfl) (Nat.zero_le _) (Nat.zero_le _) (tX2_kindOf  ?_)
        show Go X (d + 5) mc ms kX2_splitIntoTokens Q 25 [(3, .int ((x2 + 1))), (0, .ref a0), (1, .int (x1)), (2, .int (x2))] [.int ((fX2_kindOf (g_mi M (a0 + 1) (x2).toNatClampNeg)))] M 0 0
        generalize hv1 : (fX2_kindOf (g_mi M (a0 + 1) (x2).toNatClampNeg)) = v1
        replace H := H v1 hv1.symm
        refine g_istore 27 [(4, .int (v1)), (3, .int ((x2 + 1))), (0, .ref a0), (1, .int (x1)), (2, .int (x2))] dX2_splitIntoTokens_25 rfl (Nat.le_of_ble_eq_true rfl) rfl ?_
        exact g_sub [2, 3, 4, 1, 0] _ rfl (ih.2 M a0 x1 x2 (x2 + 1) v1 s0 H (fun M1 j r => hR M1 j r))
    · intro M a0 x1 x2 x3 x4 s0 H hR
      rw [qX2_splitIntoTokens, if_neg (show ¬ (1 : Nat) = 0 by decide)] at H
      unfold pX2_splitIntoTokens_27 at H
      refine g_iload 4 29 dX2_splitIntoTokens_27 rfl rfl ?_
      refine g_bipush (25) 31 dX2_splitIntoTokens_29 rfl rfl ?_
      refine g_icmp_eq 62 34 dX2_splitIntoTokens_31 rfl rfl (fun c1 => ?_) (fun c1 => ?_)
      · skip
        replace H := H.1 c1
        refine g_aload_n 0 63 dX2_splitIntoTokens_62 rfl rfl ?_
        refine g_getR 66 (a0 + 1) dX2_splitIntoTokens_63 rfl flX2_9 s0.1 s0.2.1 ?_
        refine g_iload_n 2 67 dX2_splitIntoTokens_66 rfl rfl ?_
        obtain ⟨b1, H⟩ := H
        refine h_iaload 68 (x2).toNatClampNeg dX2_splitIntoTokens_67 rfl rfl s0.2.2.1 b1 ?_
        refine g_bipush (32) 70 dX2_splitIntoTokens_68 rfl rfl ?_
        refine g_icmp_eq 149 73 dX2_splitIntoTokens_70 rfl rfl (fun c2 => ?_) (fun c2 => ?_)
        · skip
          replace H := H.1 c2
          refine g_iload_n 3 150 dX2_splitIntoTokens_149 rfl rfl ?_
          refine g_istore_n 151 [(2, .int (x3)), (0, .ref a0), (1, .int (x1)), (3, .int (x3)), (4, .int (x4))] dX2_splitIntoTokens_150 rfl (Nat.le_of_ble_eq_true rfl) rfl ?_
          refine g_goto 4 dX2_splitIntoTokens_151 rfl ?_
          exact g_sub [1, 2, 0] _ rfl (ih.1 M a0 x1 x3 0 0 s0 H (fun M1 j r => hR M1 j r))
        · skip
          replace H := H.2 c2
          refine g_aload_n 0 74 dX2_splitIntoTokens_73 rfl rfl ?_
          refine g_getR 77 (a0 + 12) dX2_splitIntoTokens_74 rfl flX2_38 s0.1 s0.2.2.2.2.2.2.2.2.2.2.2.1 ?_
          refine g_iload_n 1 78 dX2_splitIntoTokens_77 rfl rfl ?_
          refine g_iload_n 2 79 dX2_splitIntoTokens_78 rfl rfl ?_
          obtain ⟨b2, H⟩ := H
          refine h_iastore 80 (x1).toNatClampNeg dX2_splitIntoTokens_79 rfl rfl s0.2.2.2.2.2.2.2.2.2.2.2.2.1 b2 ?_
          generalize hM1 : (g_wi M (a0 + 12) (x1).toNatClampNeg x2) = M1
          have j1 : Sm M M1 := by rw [← hM1]; exact (Sm.wi Sm.rf)
          replace H := H M1 hM1.symm
          refine g_aload_n 0 81 dX2_splitIntoTokens_80 rfl rfl ?_
          refine g_getR 84 (a0 + 13) dX2_splitIntoTokens_81 rfl flX2_41 (Sm.k j1 s0.1) (Sm.r j1 s0.2.2.2.2.2.2.2.2.2.2.2.2.2.1) ?_
          refine g_iload_n 1 85 dX2_splitIntoTokens_84 rfl rfl ?_
          refine g_iload 4 87 dX2_splitIntoTokens_85 rfl rfl ?_
          refine g_bipush (23) 89 dX2_splitIntoTokens_87 rfl rfl ?_
          refine g_icmp_ne 101 92 dX2_splitIntoTokens_89 rfl rfl (fun _ => ?_) (fun q => absurd (c1.symm.trans q) (by decide))
          refine g_iconst ((-1)) 102 dX2_splitIntoTokens_101 rfl rfl ?_
          obtain ⟨b3, H⟩ := H
          refine h_iastore 103 (x1).toNatClampNeg dX2_splitIntoTokens_102 rfl rfl (Sm.k j1 s0.2.2.2.2.2.2.2.2.2.2.2.2.2.2) b3 ?_
          generalize hM2 : (g_wi M1 (a0 + 13) (x1).toNatClampNeg (-1)) = M2
          have j2 : Sm M M2 := by rw [← hM2]; exact (Sm.wi j1)
          replace H := H M2 hM2.symm
          refine g_aload_n 0 104 dX2_splitIntoTokens_103 rfl rfl ?_
          refine g_getR 107 (a0 + 11) dX2_splitIntoTokens_104 rfl flX2_35 (Sm.k j2 s0.1) (Sm.r j2 s0.2.2.2.2.2.2.2.2.2.1) ?_
          refine g_iload_n 1 108 dX2_splitIntoTokens_107 rfl rfl ?_
          refine g_iload 4 110 dX2_splitIntoTokens_108 rfl rfl ?_
          refine g_bipush (22) 112 dX2_splitIntoTokens_110 rfl rfl ?_
          refine g_icmp_ne 124 115 dX2_splitIntoTokens_112 rfl rfl (fun _ => ?_) (fun q => absurd (c1.symm.trans q) (by decide))
          refine g_iload 4 126 dX2_splitIntoTokens_124 rfl rfl ?_
          refine g_bipush (23) 128 dX2_splitIntoTokens_126 rfl rfl ?_
          refine g_icmp_ne 136 131 dX2_splitIntoTokens_128 rfl rfl (fun _ => ?_) (fun q => absurd (c1.symm.trans q) (by decide))
          refine g_bipush (25) 138 dX2_splitIntoTokens_136 rfl rfl ?_
          refine g_aload_n 0 139 dX2_splitIntoTokens_138 rfl rfl ?_
          refine g_getR 142 (a0 + 1) dX2_splitIntoTokens_139 rfl flX2_9 (Sm.k j2 s0.1) (Sm.r j2 s0.2.1) ?_
          refine g_iload_n 2 143 dX2_splitIntoTokens_142 rfl rfl ?_
          obtain ⟨b4, H⟩ := H
          refine h_iaload 144 (x2).toNatClampNeg dX2_splitIntoTokens_143 rfl rfl (Sm.k j2 s0.2.2.1) b4 ?_
          refine g_iadd 145 dX2_splitIntoTokens_144 rfl ?_
          obtain ⟨b5, H⟩ := H
          refine h_iastore 146 (x1).toNatClampNeg dX2_splitIntoTokens_145 rfl rfl (Sm.k j2 s0.2.2.2.2.2.2.2.2.2.2.1) b5 ?_
          generalize hM3 : (g_wi M2 (a0 + 11) (x1).toNatClampNeg (25 + (g_mi M2 (a0 + 1) (x2).toNatClampNeg))) = M3
          have j3 : Sm M M3 := by rw [← hM3]; exact (Sm.wi j2)
          replace H := H M3 hM3.symm
          refine g_iinc _ 1 149 [(1, .int ((x1 + 1))), (0, .ref a0), (2, .int (x2)), (3, .int (x3)), (4, .int (x4))] dX2_splitIntoTokens_146 rfl rfl rfl (Nat.le_of_ble_eq_true rfl) rfl ?_
          refine g_iload_n 3 150 dX2_splitIntoTokens_149 rfl rfl ?_
          refine g_istore_n 151 [(2, .int (x3)), (1, .int ((x1 + 1))), (0, .ref a0), (3, .int (x3)), (4, .int (x4))] dX2_splitIntoTokens_150 rfl (Nat.le_of_ble_eq_true rfl) rfl ?_
          refine g_goto 4 dX2_splitIntoTokens_151 rfl ?_
          exact g_sub [2, 1, 0] _ rfl (ih.1 M3 a0 (x1 + 1) x3 0 0 (Re.sm j3 s0) H (fun M1 j r => hR M1 (Sm.tr j3 j) r))
      · skip
        replace H := H.2 c1
        refine g_iload_n 3 35 dX2_splitIntoTokens_34 rfl rfl ?_
        refine g_aload_n 0 36 dX2_splitIntoTokens_35 rfl rfl ?_
        refine g_getI 39 dX2_splitIntoTokens_36 rfl flX2_44 s0.1 ?_
        refine g_icmp_ge 62 42 dX2_splitIntoTokens_39 rfl rfl (fun c3 => ?_) (fun c3 => ?_)
        · skip
          replace H := H.1 c3
          refine g_aload_n 0 63 dX2_splitIntoTokens_62 rfl rfl ?_
          refine g_getR 66 (a0 + 1) dX2_splitIntoTokens_63 rfl flX2_9 s0.1 s0.2.1 ?_
          refine g_iload_n 2 67 dX2_splitIntoTokens_66 rfl rfl ?_
          obtain ⟨b6, H⟩ := H
          refine h_iaload 68 (x2).toNatClampNeg dX2_splitIntoTokens_67 rfl rfl s0.2.2.1 b6 ?_
          refine g_bipush (32) 70 dX2_splitIntoTokens_68 rfl rfl ?_
          refine g_icmp_eq 149 73 dX2_splitIntoTokens_70 rfl rfl (fun c4 => ?_) (fun c4 => ?_)
          · skip
            replace H := H.1 c4
            refine g_iload_n 3 150 dX2_splitIntoTokens_149 rfl rfl ?_
            refine g_istore_n 151 [(2, .int (x3)), (0, .ref a0), (1, .int (x1)), (3, .int (x3)), (4, .int (x4))] dX2_splitIntoTokens_150 rfl (Nat.le_of_ble_eq_true rfl) rfl ?_
            refine g_goto 4 dX2_splitIntoTokens_151 rfl ?_
            exact g_sub [1, 2, 0] _ rfl (ih.1 M a0 x1 x3 0 0 s0 H (fun M1 j r => hR M1 j r))
          · skip
            replace H := H.2 c4
            refine g_aload_n 0 74 dX2_splitIntoTokens_73 rfl rfl ?_
            refine g_getR 77 (a0 + 12) dX2_splitIntoTokens_74 rfl flX2_38 s0.1 s0.2.2.2.2.2.2.2.2.2.2.2.1 ?_
            refine g_iload_n 1 78 dX2_splitIntoTokens_77 rfl rfl ?_
            refine g_iload_n 2 79 dX2_splitIntoTokens_78 rfl rfl ?_
            obtain ⟨b7, H⟩ := H
            refine h_iastore 80 (x1).toNatClampNeg dX2_splitIntoTokens_79 rfl rfl s0.2.2.2.2.2.2.2.2.2.2.2.2.1 b7 ?_
            generalize hM4 : (g_wi M (a0 + 12) (x1).toNatClampNeg x2) = M4
            have j4 : Sm M M4 := by rw [← hM4]; exact (Sm.wi Sm.rf)
            replace H := H M4 hM4.symm
            refine g_aload_n 0 81 dX2_splitIntoTokens_80 rfl rfl ?_
            refine g_getR 84 (a0 + 13) dX2_splitIntoTokens_81 rfl flX2_41 (Sm.k j4 s0.1) (Sm.r j4 s0.2.2.2.2.2.2.2.2.2.2.2.2.2.1) ?_
            refine g_iload_n 1 85 dX2_splitIntoTokens_84 rfl rfl ?_
            refine g_iload 4 87 dX2_splitIntoTokens_85 rfl rfl ?_
            refine g_bipush (23) 89 dX2_splitIntoTokens_87 rfl rfl ?_
            refine g_icmp_ne 101 92 dX2_splitIntoTokens_89 rfl rfl (fun c5 => ?_) (fun c5 => ?_)
            · skip
              replace H := H.1 c5
              refine g_iconst ((-1)) 102 dX2_splitIntoTokens_101 rfl rfl ?_
              obtain ⟨b8, H⟩ := H
              refine h_iastore 103 (x1).toNatClampNeg dX2_splitIntoTokens_102 rfl rfl (Sm.k j4 s0.2.2.2.2.2.2.2.2.2.2.2.2.2.2) b8 ?_
              generalize hM5 : (g_wi M4 (a0 + 13) (x1).toNatClampNeg (-1)) = M5
              have j5 : Sm M M5 := by rw [← hM5]; exact (Sm.wi j4)
              replace H := H M5 hM5.symm
              refine g_aload_n 0 104 dX2_splitIntoTokens_103 rfl rfl ?_
              refine g_getR 107 (a0 + 11) dX2_splitIntoTokens_104 rfl flX2_35 (Sm.k j5 s0.1) (Sm.r j5 s0.2.2.2.2.2.2.2.2.2.1) ?_
              refine g_iload_n 1 108 dX2_splitIntoTokens_107 rfl rfl ?_
              refine g_iload 4 110 dX2_splitIntoTokens_108 rfl rfl ?_
              refine g_bipush (22) 112 dX2_splitIntoTokens_110 rfl rfl ?_
              refine g_icmp_ne 124 115 dX2_splitIntoTokens_112 rfl rfl (fun c6 => ?_) (fun c6 => ?_)
              · skip
                replace H := H.1 c6
                refine g_iload 4 126 dX2_splitIntoTokens_124 rfl rfl ?_
                refine g_bipush (23) 128 dX2_splitIntoTokens_126 rfl rfl ?_
                refine g_icmp_ne 136 131 dX2_splitIntoTokens_128 rfl rfl (fun _ => ?_) (fun q => absurd q c5)
                refine g_bipush (25) 138 dX2_splitIntoTokens_136 rfl rfl ?_
                refine g_aload_n 0 139 dX2_splitIntoTokens_138 rfl rfl ?_
                refine g_getR 142 (a0 + 1) dX2_splitIntoTokens_139 rfl flX2_9 (Sm.k j5 s0.1) (Sm.r j5 s0.2.1) ?_
                refine g_iload_n 2 143 dX2_splitIntoTokens_142 rfl rfl ?_
                obtain ⟨b9, H⟩ := H
                refine h_iaload 144 (x2).toNatClampNeg dX2_splitIntoTokens_143 rfl rfl (Sm.k j5 s0.2.2.1) b9 ?_
                refine g_iadd 145 dX2_splitIntoTokens_144 rfl ?_
                obtain ⟨b10, H⟩ := H
                refine h_iastore 146 (x1).toNatClampNeg dX2_splitIntoTokens_145 rfl rfl (Sm.k j5 s0.2.2.2.2.2.2.2.2.2.2.1) b10 ?_
                generalize hM6 : (g_wi M5 (a0 + 11) (x1).toNatClampNeg (25 + (g_mi M5 (a0 + 1) (x2).toNatClampNeg))) = M6
                have j6 : Sm M M6 := by rw [← hM6]; exact (Sm.wi j5)
                replace H := H M6 hM6.symm
                refine g_iinc _ 1 149 [(1, .int ((x1 + 1))), (0, .ref a0), (2, .int (x2)), (3, .int (x3)), (4, .int (x4))] dX2_splitIntoTokens_146 rfl rfl rfl (Nat.le_of_ble_eq_true rfl) rfl ?_
                refine g_iload_n 3 150 dX2_splitIntoTokens_149 rfl rfl ?_
                refine g_istore_n 151 [(2, .int (x3)), (1, .int ((x1 + 1))), (0, .ref a0), (3, .int (x3)), (4, .int (x4))] dX2_splitIntoTokens_150 rfl (Nat.le_of_ble_eq_true rfl) rfl ?_
                refine g_goto 4 dX2_splitIntoTokens_151 rfl ?_
                exact g_sub [2, 1, 0] _ rfl (ih.1 M6 a0 (x1 + 1) x3 0 0 (Re.sm j6 s0) H (fun M1 j r => hR M1 (Sm.tr j6 j) r))
              · skip
                replace H := H.2 c6
                refine g_aload_n 0 116 dX2_splitIntoTokens_115 rfl rfl ?_
                refine g_iload_n 2 117 dX2_splitIntoTokens_116 rfl rfl ?_
                refine g_iload_n 3 118 dX2_splitIntoTokens_117 rfl rfl ?_
                refine g_callV (mc1 := 0) (ms1 := 0) (b := a0) (rest := [.int (x1), .ref (a0 + 11)]) (av := [.int (x2), .int (x3)]) kX2_wordBetween 121 dX2_splitIntoTokens_118 rfl rfl mbX2_86 imX2_wordBetween seX2_wordBetween gcl2.1 (Sm.k j5 s0.1) (Nat.le_of_ble_eq_true rfl) (Nat.zero_le _) (Nat.zero_le _) (uX2_wordBetween (N := N) (K := K) (Re.sm j5 s0) H (fun v1 H => ?_))
                show Go X (d + 5) mc ms kX2_splitIntoTokens Q 121 [(0, .ref a0), (1, .int (x1)), (2, .int (x2)), (3, .int (x3)), (4, .int (x4))] [.int (v1), .int (x1), .ref (a0 + 11)] M5 0 0
                refine g_goto 145 dX2_splitIntoTokens_121 rfl ?_
                obtain ⟨b11, H⟩ := H
                refine h_iastore 146 (x1).toNatClampNeg dX2_splitIntoTokens_145 rfl rfl (Sm.k j5 s0.2.2.2.2.2.2.2.2.2.2.1) b11 ?_
                generalize hM7 : (g_wi M5 (a0 + 11) (x1).toNatClampNeg v1) = M7
                have j7 : Sm M M7 := by rw [← hM7]; exact (Sm.wi j5)
                replace H := H M7 hM7.symm
                refine g_iinc _ 1 149 [(1, .int ((x1 + 1))), (0, .ref a0), (2, .int (x2)), (3, .int (x3)), (4, .int (x4))] dX2_splitIntoTokens_146 rfl rfl rfl (Nat.le_of_ble_eq_true rfl) rfl ?_
                refine g_iload_n 3 150 dX2_splitIntoTokens_149 rfl rfl ?_
                refine g_istore_n 151 [(2, .int (x3)), (1, .int ((x1 + 1))), (0, .ref a0), (3, .int (x3)), (4, .int (x4))] dX2_splitIntoTokens_150 rfl (Nat.le_of_ble_eq_true rfl) rfl ?_
                refine g_goto 4 dX2_splitIntoTokens_151 rfl ?_
                exact g_sub [2, 1, 0] _ rfl (ih.1 M7 a0 (x1 + 1) x3 0 0 (Re.sm j7 s0) H (fun M1 j r => hR M1 (Sm.tr j7 j) r))
            · skip
              replace H := H.2 c5
              refine g_aload_n 0 93 dX2_splitIntoTokens_92 rfl rfl ?_
              refine g_iload_n 2 94 dX2_splitIntoTokens_93 rfl rfl ?_
              refine g_iload_n 3 95 dX2_splitIntoTokens_94 rfl rfl ?_
              refine g_callV (mc1 := 0) (ms1 := 0) (b := a0) (rest := [.int (x1), .ref (a0 + 13)]) (av := [.int (x2), .int (x3)]) kX2_numberBetween 98 dX2_splitIntoTokens_95 rfl rfl mbX2_82 imX2_numberBetween seX2_numberBetween gcl2.1 (Sm.k j4 s0.1) (Nat.le_of_ble_eq_true rfl) (Nat.zero_le _) (Nat.zero_le _) (uX2_numberBetween (N := N) (K := K) (Re.sm j4 s0) H (fun v2 H => ?_))
              show Go X (d + 5) mc ms kX2_splitIntoTokens Q 98 [(0, .ref a0), (1, .int (x1)), (2, .int (x2)), (3, .int (x3)), (4, .int (x4))] [.int (v2), .int (x1), .ref (a0 + 13)] M4 0 0
              refine g_goto 102 dX2_splitIntoTokens_98 rfl ?_
              obtain ⟨b12, H⟩ := H
              refine h_iastore 103 (x1).toNatClampNeg dX2_splitIntoTokens_102 rfl rfl (Sm.k j4 s0.2.2.2.2.2.2.2.2.2.2.2.2.2.2) b12 ?_
              generalize hM8 : (g_wi M4 (a0 + 13) (x1).toNatClampNeg v2) = M8
              have j8 : Sm M M8 := by rw [← hM8]; exact (Sm.wi j4)
              replace H := H M8 hM8.symm
              refine g_aload_n 0 104 dX2_splitIntoTokens_103 rfl rfl ?_
              refine g_getR 107 (a0 + 11) dX2_splitIntoTokens_104 rfl flX2_35 (Sm.k j8 s0.1) (Sm.r j8 s0.2.2.2.2.2.2.2.2.2.1) ?_
              refine g_iload_n 1 108 dX2_splitIntoTokens_107 rfl rfl ?_
              refine g_iload 4 110 dX2_splitIntoTokens_108 rfl rfl ?_
              refine g_bipush (22) 112 dX2_splitIntoTokens_110 rfl rfl ?_
              refine g_icmp_ne 124 115 dX2_splitIntoTokens_112 rfl rfl (fun _ => ?_) (fun q => absurd (c5.symm.trans q) (by decide))
              refine g_iload 4 126 dX2_splitIntoTokens_124 rfl rfl ?_
              refine g_bipush (23) 128 dX2_splitIntoTokens_126 rfl rfl ?_
              refine g_icmp_ne 136 131 dX2_splitIntoTokens_128 rfl rfl (fun q => absurd c5 q) (fun _ => ?_)
              refine g_bipush (23) 133 dX2_splitIntoTokens_131 rfl rfl ?_
              refine g_goto 145 dX2_splitIntoTokens_133 rfl ?_
              obtain ⟨b13, H⟩ := H
              refine h_iastore 146 (x1).toNatClampNeg dX2_splitIntoTokens_145 rfl rfl (Sm.k j8 s0.2.2.2.2.2.2.2.2.2.2.1) b13 ?_
              generalize hM9 : (g_wi M8 (a0 + 11) (x1).toNatClampNeg 23) = M9
              have j9 : Sm M M9 := by rw [← hM9]; exact (Sm.wi j8)
              replace H := H M9 hM9.symm
              refine g_iinc _ 1 149 [(1, .int ((x1 + 1))), (0, .ref a0), (2, .int (x2)), (3, .int (x3)), (4, .int (x4))] dX2_splitIntoTokens_146 rfl rfl rfl (Nat.le_of_ble_eq_true rfl) rfl ?_
              refine g_iload_n 3 150 dX2_splitIntoTokens_149 rfl rfl ?_
              refine g_istore_n 151 [(2, .int (x3)), (1, .int ((x1 + 1))), (0, .ref a0), (3, .int (x3)), (4, .int (x4))] dX2_splitIntoTokens_150 rfl (Nat.le_of_ble_eq_true rfl) rfl ?_
              refine g_goto 4 dX2_splitIntoTokens_151 rfl ?_
              exact g_sub [2, 1, 0] _ rfl (ih.1 M9 a0 (x1 + 1) x3 0 0 (Re.sm j9 s0) H (fun M1 j r => hR M1 (Sm.tr j9 j) r))
        · skip
          replace H := H.2 c3
          refine g_aload_n 0 43 dX2_splitIntoTokens_42 rfl rfl ?_
          refine g_getR 46 (a0 + 1) dX2_splitIntoTokens_43 rfl flX2_9 s0.1 s0.2.1 ?_
          refine g_iload_n 3 47 dX2_splitIntoTokens_46 rfl rfl ?_
          obtain ⟨b14, H⟩ := H
          refine h_iaload 48 (x3).toNatClampNeg dX2_splitIntoTokens_47 rfl rfl s0.2.2.1 b14 ?_
          refine g_callS (mc1 := 0) (ms1 := 0) (rest := []) (av := [.int ((g_mi M (a0 + 1) (x3).toNatClampNeg))]) kX2_kindOf 51 dX2_splitIntoTokens_48 rfl rfl mbX2_78 smX2_kindOf (Nat.le_of_ble_eq_true rfl) (Nat.zero_le _) (Nat.zero_le _) (tX2_kindOf  ?_)
          show Go X (d + 5) mc ms kX2_splitIntoTokens Q 51 [(0, .ref a0), (1, .int (x1)), (2, .int (x2)), (3, .int (x3)), (4, .int (x4))] [.int ((fX2_kindOf (g_mi M (a0 + 1) (x3).toNatClampNeg)))] M 0 0
          generalize hv3 : (fX2_kindOf (g_mi M (a0 + 1) (x3).toNatClampNeg)) = v3
          replace H := H v3 hv3.symm
          refine g_iload 4 53 dX2_splitIntoTokens_51 rfl rfl ?_
          refine g_icmp_ne 62 56 dX2_splitIntoTokens_53 rfl rfl (fun c7 => ?_) (fun c7 => ?_)
          · skip
            replace H := H.1 c7
            refine g_aload_n 0 63 dX2_splitIntoTokens_62 rfl rfl ?_
            refine g_getR 66 (a0 + 1) dX2_splitIntoTokens_63 rfl flX2_9 s0.1 s0.2.1 ?_
            refine g_iload_n 2 67 dX2_splitIntoTokens_66 rfl rfl ?_
            obtain ⟨b15, H⟩ := H
            refine h_iaload 68 (x2).toNatClampNeg dX2_splitIntoTokens_67 rfl rfl s0.2.2.1 b15 ?_
            refine g_bipush (32) 70 dX2_splitIntoTokens_68 rfl rfl ?_
            refine g_icmp_eq 149 73 dX2_splitIntoTokens_70 rfl rfl (fun c8 => ?_) (fun c8 => ?_)
            · skip
              replace H := H.1 c8
              refine g_iload_n 3 150 dX2_splitIntoTokens_149 rfl rfl ?_
              refine g_istore_n 151 [(2, .int (x3)), (0, .ref a0), (1, .int (x1)), (3, .int (x3)), (4, .int (x4))] dX2_splitIntoTokens_150 rfl (Nat.le_of_ble_eq_true rfl) rfl ?_
              refine g_goto 4 dX2_splitIntoTokens_151 rfl ?_
              exact g_sub [1, 2, 0] _ rfl (ih.1 M a0 x1 x3 0 0 s0 H (fun M1 j r => hR M1 j r))
            · skip
              replace H := H.2 c8
              refine g_aload_n 0 74 dX2_splitIntoTokens_73 rfl rfl ?_
              refine g_getR 77 (a0 + 12) dX2_splitIntoTokens_74 rfl flX2_38 s0.1 s0.2.2.2.2.2.2.2.2.2.2.2.1 ?_
              refine g_iload_n 1 78 dX2_splitIntoTokens_77 rfl rfl ?_
              refine g_iload_n 2 79 dX2_splitIntoTokens_78 rfl rfl ?_
              obtain ⟨b16, H⟩ := H
              refine h_iastore 80 (x1).toNatClampNeg dX2_splitIntoTokens_79 rfl rfl s0.2.2.2.2.2.2.2.2.2.2.2.2.1 b16 ?_
              generalize hM10 : (g_wi M (a0 + 12) (x1).toNatClampNeg x2) = M10
              have j10 : Sm M M10 := by rw [← hM10]; exact (Sm.wi Sm.rf)
              replace H := H M10 hM10.symm
              refine g_aload_n 0 81 dX2_splitIntoTokens_80 rfl rfl ?_
              refine g_getR 84 (a0 + 13) dX2_splitIntoTokens_81 rfl flX2_41 (Sm.k j10 s0.1) (Sm.r j10 s0.2.2.2.2.2.2.2.2.2.2.2.2.2.1) ?_
              refine g_iload_n 1 85 dX2_splitIntoTokens_84 rfl rfl ?_
              refine g_iload 4 87 dX2_splitIntoTokens_85 rfl rfl ?_
              refine g_bipush (23) 89 dX2_splitIntoTokens_87 rfl rfl ?_
              refine g_icmp_ne 101 92 dX2_splitIntoTokens_89 rfl rfl (fun c9 => ?_) (fun c9 => ?_)
              · skip
                replace H := H.1 c9
                refine g_iconst ((-1)) 102 dX2_splitIntoTokens_101 rfl rfl ?_
                obtain ⟨b17, H⟩ := H
                refine h_iastore 103 (x1).toNatClampNeg dX2_splitIntoTokens_102 rfl rfl (Sm.k j10 s0.2.2.2.2.2.2.2.2.2.2.2.2.2.2) b17 ?_
                generalize hM11 : (g_wi M10 (a0 + 13) (x1).toNatClampNeg (-1)) = M11
                have j11 : Sm M M11 := by rw [← hM11]; exact (Sm.wi j10)
                replace H := H M11 hM11.symm
                refine g_aload_n 0 104 dX2_splitIntoTokens_103 rfl rfl ?_
                refine g_getR 107 (a0 + 11) dX2_splitIntoTokens_104 rfl flX2_35 (Sm.k j11 s0.1) (Sm.r j11 s0.2.2.2.2.2.2.2.2.2.1) ?_
                refine g_iload_n 1 108 dX2_splitIntoTokens_107 rfl rfl ?_
                refine g_iload 4 110 dX2_splitIntoTokens_108 rfl rfl ?_
                refine g_bipush (22) 112 dX2_splitIntoTokens_110 rfl rfl ?_
                refine g_icmp_ne 124 115 dX2_splitIntoTokens_112 rfl rfl (fun c10 => ?_) (fun c10 => ?_)
                · skip
                  replace H := H.1 c10
                  refine g_iload 4 126 dX2_splitIntoTokens_124 rfl rfl ?_
                  refine g_bipush (23) 128 dX2_splitIntoTokens_126 rfl rfl ?_
                  refine g_icmp_ne 136 131 dX2_splitIntoTokens_128 rfl rfl (fun _ => ?_) (fun q => absurd q c9)
                  refine g_bipush (25) 138 dX2_splitIntoTokens_136 rfl rfl ?_
                  refine g_aload_n 0 139 dX2_splitIntoTokens_138 rfl rfl ?_
                  refine g_getR 142 (a0 + 1) dX2_splitIntoTokens_139 rfl flX2_9 (Sm.k j11 s0.1) (Sm.r j11 s0.2.1) ?_
                  refine g_iload_n 2 143 dX2_splitIntoTokens_142 rfl rfl ?_
                  obtain ⟨b18, H⟩ := H
                  refine h_iaload 144 (x2).toNatClampNeg dX2_splitIntoTokens_143 rfl rfl (Sm.k j11 s0.2.2.1) b18 ?_
                  refine g_iadd 145 dX2_splitIntoTokens_144 rfl ?_
                  obtain ⟨b19, H⟩ := H
                  refine h_iastore 146 (x1).toNatClampNeg dX2_splitIntoTokens_145 rfl rfl (Sm.k j11 s0.2.2.2.2.2.2.2.2.2.2.1) b19 ?_
                  generalize hM12 : (g_wi M11 (a0 + 11) (x1).toNatClampNeg (25 + (g_mi M11 (a0 + 1) (x2).toNatClampNeg))) = M12
                  have j12 : Sm M M12 := by rw [← hM12]; exact (Sm.wi j11)
                  replace H := H M12 hM12.symm
                  refine g_iinc _ 1 149 [(1, .int ((x1 + 1))), (0, .ref a0), (2, .int (x2)), (3, .int (x3)), (4, .int (x4))] dX2_splitIntoTokens_146 rfl rfl rfl (Nat.le_of_ble_eq_true rfl) rfl ?_
                  refine g_iload_n 3 150 dX2_splitIntoTokens_149 rfl rfl ?_
                  refine g_istore_n 151 [(2, .int (x3)), (1, .int ((x1 + 1))), (0, .ref a0), (3, .int (x3)), (4, .int (x4))] dX2_splitIntoTokens_150 rfl (Nat.le_of_ble_eq_true rfl) rfl ?_
                  refine g_goto 4 dX2_splitIntoTokens_151 rfl ?_
                  exact g_sub [2, 1, 0] _ rfl (ih.1 M12 a0 (x1 + 1) x3 0 0 (Re.sm j12 s0) H (fun M1 j r => hR M1 (Sm.tr j12 j) r))
                · skip
                  replace H := H.2 c10
                  refine g_aload_n 0 116 dX2_splitIntoTokens_115 rfl rfl ?_
                  refine g_iload_n 2 117 dX2_splitIntoTokens_116 rfl rfl ?_
                  refine g_iload_n 3 118 dX2_splitIntoTokens_117 rfl rfl ?_
                  refine g_callV (mc1 := 0) (ms1 := 0) (b := a0) (rest := [.int (x1), .ref (a0 + 11)]) (av := [.int (x2), .int (x3)]) kX2_wordBetween 121 dX2_splitIntoTokens_118 rfl rfl mbX2_86 imX2_wordBetween seX2_wordBetween gcl2.1 (Sm.k j11 s0.1) (Nat.le_of_ble_eq_true rfl) (Nat.zero_le _) (Nat.zero_le _) (uX2_wordBetween (N := N) (K := K) (Re.sm j11 s0) H (fun v4 H => ?_))
                  show Go X (d + 5) mc ms kX2_splitIntoTokens Q 121 [(0, .ref a0), (1, .int (x1)), (2, .int (x2)), (3, .int (x3)), (4, .int (x4))] [.int (v4), .int (x1), .ref (a0 + 11)] M11 0 0
                  refine g_goto 145 dX2_splitIntoTokens_121 rfl ?_
                  obtain ⟨b20, H⟩ := H
                  refine h_iastore 146 (x1).toNatClampNeg dX2_splitIntoTokens_145 rfl rfl (Sm.k j11 s0.2.2.2.2.2.2.2.2.2.2.1) b20 ?_
                  generalize hM13 : (g_wi M11 (a0 + 11) (x1).toNatClampNeg v4) = M13
                  have j13 : Sm M M13 := by rw [← hM13]; exact (Sm.wi j11)
                  replace H := H M13 hM13.symm
                  refine g_iinc _ 1 149 [(1, .int ((x1 + 1))), (0, .ref a0), (2, .int (x2)), (3, .int (x3)), (4, .int (x4))] dX2_splitIntoTokens_146 rfl rfl rfl (Nat.le_of_ble_eq_true rfl) rfl ?_
                  refine g_iload_n 3 150 dX2_splitIntoTokens_149 rfl rfl ?_
                  refine g_istore_n 151 [(2, .int (x3)), (1, .int ((x1 + 1))), (0, .ref a0), (3, .int (x3)), (4, .int (x4))] dX2_splitIntoTokens_150 rfl (Nat.le_of_ble_eq_true rfl) rfl ?_
                  refine g_goto 4 dX2_splitIntoTokens_151 rfl ?_
                  exact g_sub [2, 1, 0] _ rfl (ih.1 M13 a0 (x1 + 1) x3 0 0 (Re.sm j13 s0) H (fun M1 j r => hR M1 (Sm.tr j13 j) r))
              · skip
                replace H := H.2 c9
                refine g_aload_n 0 93 dX2_splitIntoTokens_92 rfl rfl ?_
                refine g_iload_n 2 94 dX2_splitIntoTokens_93 rfl rfl ?_
                refine g_iload_n 3 95 dX2_splitIntoTokens_94 rfl rfl ?_
                refine g_callV (mc1 := 0) (ms1 := 0) (b := a0) (rest := [.int (x1), .ref (a0 + 13)]) (av := [.int (x2), .int (x3)]) kX2_numberBetween 98 dX2_splitIntoTokens_95 rfl rfl mbX2_82 imX2_numberBetween seX2_numberBetween gcl2.1 (Sm.k j10 s0.1) (Nat.le_of_ble_eq_true rfl) (Nat.zero_le _) (Nat.zero_le _) (uX2_numberBetween (N := N) (K := K) (Re.sm j10 s0) H (fun v5 H => ?_))
                show Go X (d + 5) mc ms kX2_splitIntoTokens Q 98 [(0, .ref a0), (1, .int (x1)), (2, .int (x2)), (3, .int (x3)), (4, .int (x4))] [.int (v5), .int (x1), .ref (a0 + 13)] M10 0 0
                refine g_goto 102 dX2_splitIntoTokens_98 rfl ?_
                obtain ⟨b21, H⟩ := H
                refine h_iastore 103 (x1).toNatClampNeg dX2_splitIntoTokens_102 rfl rfl (Sm.k j10 s0.2.2.2.2.2.2.2.2.2.2.2.2.2.2) b21 ?_
                generalize hM14 : (g_wi M10 (a0 + 13) (x1).toNatClampNeg v5) = M14
                have j14 : Sm M M14 := by rw [← hM14]; exact (Sm.wi j10)
                replace H := H M14 hM14.symm
                refine g_aload_n 0 104 dX2_splitIntoTokens_103 rfl rfl ?_
                refine g_getR 107 (a0 + 11) dX2_splitIntoTokens_104 rfl flX2_35 (Sm.k j14 s0.1) (Sm.r j14 s0.2.2.2.2.2.2.2.2.2.1) ?_
                refine g_iload_n 1 108 dX2_splitIntoTokens_107 rfl rfl ?_
                refine g_iload 4 110 dX2_splitIntoTokens_108 rfl rfl ?_
                refine g_bipush (22) 112 dX2_splitIntoTokens_110 rfl rfl ?_
                refine g_icmp_ne 124 115 dX2_splitIntoTokens_112 rfl rfl (fun _ => ?_) (fun q => absurd (c9.symm.trans q) (by decide))
                refine g_iload 4 126 dX2_splitIntoTokens_124 rfl rfl ?_
                refine g_bipush (23) 128 dX2_splitIntoTokens_126 rfl rfl ?_
                refine g_icmp_ne 136 131 dX2_splitIntoTokens_128 rfl rfl (fun q => absurd c9 q) (fun _ => ?_)
                refine g_bipush (23) 133 dX2_splitIntoTokens_131 rfl rfl ?_
                refine g_goto 145 dX2_splitIntoTokens_133 rfl ?_
                obtain ⟨b22, H⟩ := H
                refine h_iastore 146 (x1).toNatClampNeg dX2_splitIntoTokens_145 rfl rfl (Sm.k j14 s0.2.2.2.2.2.2.2.2.2.2.1) b22 ?_
                generalize hM15 : (g_wi M14 (a0 + 11) (x1).toNatClampNeg 23) = M15
                have j15 : Sm M M15 := by rw [← hM15]; exact (Sm.wi j14)
                replace H := H M15 hM15.symm
                refine g_iinc _ 1 149 [(1, .int ((x1 + 1))), (0, .ref a0), (2, .int (x2)), (3, .int (x3)), (4, .int (x4))] dX2_splitIntoTokens_146 rfl rfl rfl (Nat.le_of_ble_eq_true rfl) rfl ?_
                refine g_iload_n 3 150 dX2_splitIntoTokens_149 rfl rfl ?_
                refine g_istore_n 151 [(2, .int (x3)), (1, .int ((x1 + 1))), (0, .ref a0), (3, .int (x3)), (4, .int (x4))] dX2_splitIntoTokens_150 rfl (Nat.le_of_ble_eq_true rfl) rfl ?_
                refine g_goto 4 dX2_splitIntoTokens_151 rfl ?_
                exact g_sub [2, 1, 0] _ rfl (ih.1 M15 a0 (x1 + 1) x3 0 0 (Re.sm j15 s0) H (fun M1 j r => hR M1 (Sm.tr j15 j) r))
          · skip
            replace H := H.2 c7
            refine g_iinc _ 3 59 [(3, .int ((x3 + 1))), (0, .ref a0), (1, .int (x1)), (2, .int (x2)), (4, .int (x4))] dX2_splitIntoTokens_56 rfl rfl rfl (Nat.le_of_ble_eq_true rfl) rfl ?_
            refine g_goto 27 dX2_splitIntoTokens_59 rfl ?_
            exact g_sub [1, 2, 3, 0, 4] _ rfl (ih.2 M a0 x1 x2 (x3 + 1) x4 s0 H (fun M1 j r => hR M1 j r))
set_option maxRecDepth 10000 in
theorem uX2_splitIntoTokens {N K : Nat} {X : gX} {d mc ms : Nat} {Q : Option Value → gM → Prop} {M : gM} {a0 : Nat} {R : gM → Prop} (s0 : Re M a0) (H : pX2_splitIntoTokens N K M a0 R) (hR : ∀ (M1 : gM), Sm M M1 → R M1 → Q none M1) : Cn X (d + 5) mc ms kX2_splitIntoTokens [.ref a0] M Q := by
  have ih := ulX2_splitIntoTokens (X := X) (d := d) (mc := mc) (ms := ms) (Q := Q) (N := N) (K := K) (R := R) N
  unfold pX2_splitIntoTokens pX2_splitIntoTokens_0 at H
  refine g_meth rfl rfl (Nat.le_of_ble_eq_true rfl) rfl ?_
  refine g_iconst (0) 1 dX2_splitIntoTokens_0 rfl rfl ?_
  refine g_istore_n 2 [(1, .int (0)), (0, .ref a0)] dX2_splitIntoTokens_1 rfl (Nat.le_of_ble_eq_true rfl) rfl ?_
  refine g_iconst (0) 3 dX2_splitIntoTokens_2 rfl rfl ?_
  refine g_istore_n 4 [(2, .int (0)), (1, .int (0)), (0, .ref a0)] dX2_splitIntoTokens_3 rfl (Nat.le_of_ble_eq_true rfl) rfl ?_
  exact g_sub [2, 1, 0] _ rfl (ih.1 M a0 0 0 0 0 s0 H (fun M1 j r => hR M1 j r))
/-! X5_solve -/
def pX5_solve_0 (N K : Nat) (kp : Nat → gM → Nat → Nat → Int32 → Prop) (R : gM → Prop) (M : gM) (a0 : Nat) (a1 : Nat) (a2 : Nat) : Prop := ∀ M1 : gM, M1 = (g_wi M a0 3 1) → ∀ M2 : gM, M2 = (g_wi M1 a0 4 (g_mi M1 a1 3)) → ∀ M3 : gM, M3 = (g_wi M2 a0 5 (g_mi M2 a1 4)) → ∀ M4 : gM, M4 = (g_wi M3 a0 6 (g_mi M3 a1 5)) → ∀ M5 : gM, M5 = (g_cp M4 (a1 + 1) (a0 + 1) 0 0 30) → (EJ7_fill_53178 N M5 (a0 + 2) 60 3) ∧ ∀ M6 : gM, M6 = (mJ7_fill_53178 N M5 (a0 + 2) 60 3) → (EJ7_fill_53178 N M6 (a0 + 3) 60 0) ∧ ∀ M7 : gM, M7 = (mJ7_fill_53178 N M6 (a0 + 3) 60 0) → kp 0 M7 a0 a2 ((g_mi M7 a2 8) - 1)
def pX5_solve_67 (N K : Nat) (kp : Nat → gM → Nat → Nat → Int32 → Prop) (R : gM → Prop) (M : gM) (a0 : Nat) (a2 : Nat) (x3 : Int32) : Prop := ((x3 < 0 → R M) ∧ (¬ x3 < 0 → (vp_in (x3) 30) ∧ pX5_settle N K M a0 (g_mi M (a2 + 3) (x3).toNatClampNeg) (g_mi M (a2 + 2) (x3).toNatClampNeg) (a2 + 1) 90 (fun M1 => kp 0 M1 a0 a2 (x3 + (-1)))))
def qX5_solve (N K : Nat) (R : gM → Prop) : Nat → Nat → gM → Nat → Nat → Int32 → Prop
  | 0, _, _, _, _, _ => False
  | n + 1, _, M, a0, a2, x3 => pX5_solve_67 N K (qX5_solve N K R n) R M a0 a2 x3
def pX5_solve (N K : Nat) (M : gM) (a0 : Nat) (a1 : Nat) (a2 : Nat) (R : gM → Prop) : Prop := pX5_solve_0 N K (qX5_solve N K R N) R M a0 a1 a2
def ULX5_solve (X : gX) (d mc ms : Nat) (Q : Option Value → gM → Prop) (N K : Nat) (R : gM → Prop) (n : Nat) : Prop := (∀ (M : gM) (a0 : Nat) (a2 : Nat) (x3 : Int32), Tb M a0 → Pe M a2 → qX5_solve N K R n 0 M a0 a2 x3 → (∀ (M1 : gM), Sm M M1 → R M1 → Q none M1) → Go X (d + 2) mc ms kX5_solve Q 67 [(0, .ref a0), (2, .ref a2), (3, .int (x3))] [] M 0 0)
set_option maxRecDepth 10000 in
theorem ulX5_solve {X : gX} {d mc ms : Nat} {Q : Option Value → gM → Prop} {N K : Nat} {R : gM → Prop} : ∀ n : Nat, ULX5_solve X d mc ms Q N K R n := by
  intro n
  induction n with
  | zero => exact fun _ _ _ _ _ _ h _ => h.elim
  | succ n ih =>
    intro M a0 a2 x3 s0 s2 H hR
    rw [qX5_solve] at H
    unfold pX5_solve_67 at H
    refine g_iload_n 2 68 dX5_solve_67 rfl rfl ?_
    refine g_if_lt 97 71 dX5_solve_68 rfl rfl (fun c1 => ?_) (fun c1 => ?_)
    · skip
      replace H := H.1 c1
      exact g_vret dX5_solve_97 rfl (Nat.zero_le _) (Nat.zero_le _) (hR _ Sm.rf H)
    · skip
      replace H := H.2 c1
      refine g_aload_n 0 72 dX5_solve_71 rfl rfl ?_
      refine g_aload_n 1 73 dX5_solve_72 rfl rfl ?_
      refine g_getR 76 (a2 + 3) dX5_solve_73 rfl flX5_58 s2.1 s2.2.2.2.2.2.1 ?_
      refine g_iload_n 2 77 dX5_solve_76 rfl rfl ?_
      obtain ⟨b1, H⟩ := H
      refine h_iaload 78 (x3).toNatClampNeg dX5_solve_77 rfl rfl s2.2.2.2.2.2.2.1 b1 ?_
      refine g_aload_n 1 79 dX5_solve_78 rfl rfl ?_
      refine g_getR 82 (a2 + 2) dX5_solve_79 rfl flX5_61 s2.1 s2.2.2.2.1 ?_
      refine g_iload_n 2 83 dX5_solve_82 rfl rfl ?_
      refine h_iaload 84 (x3).toNatClampNeg dX5_solve_83 rfl rfl s2.2.2.2.2.1 b1 ?_
      refine g_aload_n 1 85 dX5_solve_84 rfl rfl ?_
      refine g_getR 88 (a2 + 1) dX5_solve_85 rfl flX5_64 s2.1 s2.2.1 ?_
      refine g_callV (mc1 := 0) (ms1 := 0) (b := a0) (rest := []) (av := [.int ((g_mi M (a2 + 3) (x3).toNatClampNeg)), .int ((g_mi M (a2 + 2) (x3).toNatClampNeg)), .ref (a2 + 1)]) kX5_settle 91 dX5_solve_88 rfl rfl mbX5_67 imX5_settle seX5_settle gcl5.1 s0.1 (Nat.le_of_ble_eq_true rfl) (Nat.zero_le _) (Nat.zero_le _) (uX5_settle (N := N) (K := K) s0 s2.2.2.1 H (fun M1 jj H => ?_))
      have j1 : Sm M M1 := jj
      show Go X (d + 2) mc ms kX5_solve Q 91 [(0, .ref a0), (2, .ref a2), (3, .int (x3))] [] M1 0 0
      refine g_iinc _ 2 94 [(3, .int ((x3 + (-1)))), (0, .ref a0), (2, .ref a2)] dX5_solve_91 rfl rfl rfl (Nat.le_of_ble_eq_true rfl) rfl ?_
      refine g_goto 67 dX5_solve_94 rfl ?_
      exact g_sub [1, 2, 0] _ rfl (ih M1 a0 a2 (x3 + (-1)) (Tb.sm j1 s0) (Pe.sm j1 s2) H (fun M1 j r => hR M1 (Sm.tr j1 j) r))
set_option maxRecDepth 10000 in
theorem uX5_solve {N K : Nat} {X : gX} {d mc ms : Nat} {Q : Option Value → gM → Prop} {M : gM} {a0 : Nat} {a1 : Nat} {a2 : Nat} {R : gM → Prop} (s0 : Tb M a0) (s1 : St M a1) (s2 : Pe M a2) (H : pX5_solve N K M a0 a1 a2 R) (hR : ∀ (M1 : gM), Sm M M1 → R M1 → Q none M1) : Cn X (d + 2) mc ms kX5_solve [.ref a0, .ref a1, .ref a2] M Q := by
  have ih := ulX5_solve (X := X) (d := d) (mc := mc) (ms := ms) (Q := Q) (N := N) (K := K) (R := R) N
  unfold pX5_solve pX5_solve_0 at H
  refine g_meth rfl rfl (Nat.le_of_ble_eq_true rfl) rfl ?_
  refine g_aload_n 0 1 dX5_solve_0 rfl rfl ?_
  refine g_iconst (1) 2 dX5_solve_1 rfl rfl ?_
  refine g_putZ 5 dX5_solve_2 rfl flX5_25 s0.1 (by decide) ?_
  generalize hM1 : (g_wi M a0 3 1) = M1
  have j1 : Sm M M1 := by rw [← hM1]; exact (Sm.wi Sm.rf)
  replace H := H M1 hM1.symm
  refine g_aload_n 0 6 dX5_solve_5 rfl rfl ?_
  refine g_aload_n 1 7 dX5_solve_6 rfl rfl ?_
  refine g_getI 10 dX5_solve_7 rfl flX5_41 (Sm.k j1 s1.1) ?_
  refine g_putI 13 dX5_solve_10 rfl flX5_35 (Sm.k j1 s0.1) ?_
  generalize hM2 : (g_wi M1 a0 4 (g_mi M1 a1 3)) = M2
  have j2 : Sm M M2 := by rw [← hM2]; exact (Sm.wi j1)
  replace H := H M2 hM2.symm
  refine g_aload_n 0 14 dX5_solve_13 rfl rfl ?_
  refine g_aload_n 1 15 dX5_solve_14 rfl rfl ?_
  refine g_getI 18 dX5_solve_15 rfl flX5_44 (Sm.k j2 s1.1) ?_
  refine g_putI 21 dX5_solve_18 rfl flX5_21 (Sm.k j2 s0.1) ?_
  generalize hM3 : (g_wi M2 a0 5 (g_mi M2 a1 4)) = M3
  have j3 : Sm M M3 := by rw [← hM3]; exact (Sm.wi j2)
  replace H := H M3 hM3.symm
  refine g_aload_n 0 22 dX5_solve_21 rfl rfl ?_
  refine g_aload_n 1 23 dX5_solve_22 rfl rfl ?_
  refine g_getI 26 dX5_solve_23 rfl flX5_45 (Sm.k j3 s1.1) ?_
  refine g_putI 29 dX5_solve_26 rfl flX5_38 (Sm.k j3 s0.1) ?_
  generalize hM4 : (g_wi M3 a0 6 (g_mi M3 a1 5)) = M4
  have j4 : Sm M M4 := by rw [← hM4]; exact (Sm.wi j3)
  replace H := H M4 hM4.symm
  refine g_aload_n 1 30 dX5_solve_29 rfl rfl ?_
  refine g_getR 33 (a1 + 1) dX5_solve_30 rfl flX5_46 (Sm.k j4 s1.1) (Sm.r j4 s1.2.1) ?_
  refine g_iconst (0) 34 dX5_solve_33 rfl rfl ?_
  refine g_aload_n 0 35 dX5_solve_34 rfl rfl ?_
  refine g_getR 38 (a0 + 1) dX5_solve_35 rfl flX5_9 (Sm.k j4 s0.1) (Sm.r j4 s0.2.1) ?_
  refine g_iconst (0) 39 dX5_solve_38 rfl rfl ?_
  refine g_bipush (30) 41 dX5_solve_39 rfl rfl ?_
  refine g_copy 44 dX5_solve_41 rfl q3_195 q3_180 q3_179 q1_17 (Sm.k j4 s1.2.2.1) (Sm.k j4 s0.2.2.1) (by decide) (by decide) (by decide) (by decide) (by decide) (Nat.le_of_ble_eq_true rfl) ?_
  show Go X (d + 2) mc ms kX5_solve Q 44 [(0, .ref a0), (1, .ref a1), (2, .ref a2)] [] (g_cp M4 (a1 + 1) (a0 + 1) 0 0 30) 0 0
  generalize hM5 : (g_cp M4 (a1 + 1) (a0 + 1) 0 0 30) = M5
  have j5 : Sm M M5 := by rw [← hM5]; exact (Sm.cp j4)
  replace H := H M5 hM5.symm
  refine g_aload_n 0 45 dX5_solve_44 rfl rfl ?_
  refine g_getR 48 (a0 + 2) dX5_solve_45 rfl flX5_15 (Sm.k j5 s0.1) (Sm.r j5 s0.2.2.2.1) ?_
  refine g_iconst (3) 49 dX5_solve_48 rfl rfl ?_
  obtain ⟨b1, H⟩ := H
  refine g_callS (mc1 := 0) (ms1 := 0) (rest := []) (av := [.ref (a0 + 2), .int (3)]) kJ7_fill_53178 52 dX5_solve_49 rfl rfl mbX5_47 smJ7_fill_53178 (Nat.le_of_ble_eq_true rfl) (Nat.zero_le _) (Nat.zero_le _) (tJ7_fill_53178 (N := N) (Sm.k j5 s0.2.2.2.2.1) b1 ?_)
  show Go X (d + 2) mc ms kX5_solve Q 52 [(0, .ref a0), (1, .ref a1), (2, .ref a2)] [] (mJ7_fill_53178 N M5 (a0 + 2) 60 3) 0 0
  generalize hM6 : (mJ7_fill_53178 N M5 (a0 + 2) 60 3) = M6
  have j6 : Sm M M6 := by rw [← hM6]; exact (Sm.tr j5 jJ7_fill_53178)
  replace H := H M6 hM6.symm
  refine g_aload_n 0 53 dX5_solve_52 rfl rfl ?_
  refine g_getR 56 (a0 + 3) dX5_solve_53 rfl flX5_18 (Sm.k j6 s0.1) (Sm.r j6 s0.2.2.2.2.2.1) ?_
  refine g_iconst (0) 57 dX5_solve_56 rfl rfl ?_
  obtain ⟨b2, H⟩ := H
  refine g_callS (mc1 := 0) (ms1 := 0) (rest := []) (av := [.ref (a0 + 3), .int (0)]) kJ7_fill_53178 60 dX5_solve_57 rfl rfl mbX5_47 smJ7_fill_53178 (Nat.le_of_ble_eq_true rfl) (Nat.zero_le _) (Nat.zero_le _) (tJ7_fill_53178 (N := N) (Sm.k j6 s0.2.2.2.2.2.2) b2 ?_)
  show Go X (d + 2) mc ms kX5_solve Q 60 [(0, .ref a0), (1, .ref a1), (2, .ref a2)] [] (mJ7_fill_53178 N M6 (a0 + 3) 60 0) 0 0
  generalize hM7 : (mJ7_fill_53178 N M6 (a0 + 3) 60 0) = M7
  have j7 : Sm M M7 := by rw [← hM7]; exact (Sm.tr j6 jJ7_fill_53178)
  replace H := H M7 hM7.symm
  refine g_aload_n 2 61 dX5_solve_60 rfl rfl ?_
  refine g_getI 64 dX5_solve_61 rfl flX5_53 (Sm.k j7 s2.1) ?_
  refine g_iconst (1) 65 dX5_solve_64 rfl rfl ?_
  refine g_isub 66 dX5_solve_65 rfl ?_
  refine g_istore_n 67 [(3, .int (((g_mi M7 a2 8) - 1))), (0, .ref a0), (1, .ref a1), (2, .ref a2)] dX5_solve_66 rfl (Nat.le_of_ble_eq_true rfl) rfl ?_
  exact g_sub [1, 3, 0] _ rfl (ih M7 a0 a2 ((g_mi M7 a2 8) - 1) (Tb.sm j7 s0) (Pe.sm j7 s2) H (fun M1 j r => hR M1 (Sm.tr j7 j) r))
/-! X8_key -/
def pX8_key (N K : Nat) (M : gM) (a0 : Nat) (x1 : Int32) (x2 : Int32) (R : Int32 → gM → Prop) : Prop := ∀ v1 : Int32, v1 = (fX8_isKey x1) → ((¬ v1 = 0 → ((x2 = 0 → (EX3_has N M ((a0 + 1) + 1) x1) ∧ ∀ v2 : Int32, v2 = (fX3_has N M ((a0 + 1) + 1) x1) → ((v2 = 0 → R 0 M) ∧ (¬ v2 = 0 → R 1 M))) ∧ (¬ x2 = 0 → ((x2 = 1 → (EX8_lawNumbered M a0 (g_mi M (a0 + 1) 6)) ∧ pX4_isBarred N K M (a0 + 271) (aLaw M a0 (g_mi M (a0 + 1) 6)) (kl M ((aLaw M a0 (g_mi M (a0 + 1) 6)) + 1)) (kl M ((aLaw M a0 (g_mi M (a0 + 1) 6)) + 5)) ((a0 + 1) + 1) x1 (fun v3 M1 => ((v3 = 0 → R 0 M1) ∧ (¬ v3 = 0 → R 1 M1)))) ∧ (¬ x2 = 1 → ((x2 = 2 → (EX8_vertexOf M x1 (x2 - 2) (g_mi M ((a0 + 1) + 1) 5) (g_mi M ((a0 + 1) + 1) 4)) ∧ ∀ v4 : Int32, v4 = (fX8_vertexOf x1 (x2 - 2) (g_mi M ((a0 + 1) + 1) 5) (g_mi M ((a0 + 1) + 1) 4)) → R v4 M) ∧ (¬ x2 = 2 → ((x2 = 3 → (EX8_vertexOf M x1 (x2 - 2) (g_mi M ((a0 + 1) + 1) 5) (g_mi M ((a0 + 1) + 1) 4)) ∧ ∀ v5 : Int32, v5 = (fX8_vertexOf x1 (x2 - 2) (g_mi M ((a0 + 1) + 1) 5) (g_mi M ((a0 + 1) + 1) 4)) → R v5 M) ∧ (¬ x2 = 3 → ((x2 = 4 → (EX8_vertexOf M x1 (x2 - 2) (g_mi M ((a0 + 1) + 1) 5) (g_mi M ((a0 + 1) + 1) 4)) ∧ ∀ v6 : Int32, v6 = (fX8_vertexOf x1 (x2 - 2) (g_mi M ((a0 + 1) + 1) 5) (g_mi M ((a0 + 1) + 1) 4)) → R v6 M) ∧ (¬ x2 = 4 → R (-1) M))))))))))) ∧ (v1 = 0 → R (-1) M))
set_option maxRecDepth 10000 in
theorem uX8_key {N K : Nat} {X : gX} {d mc ms : Nat} {Q : Option Value → gM → Prop} {M : gM} {a0 : Nat} {x1 : Int32} {x2 : Int32} {R : Int32 → gM → Prop} (s0 : Ph M a0) (H : pX8_key N K M a0 x1 x2 R) (hR : ∀ (v : Int32) (M1 : gM), Sm M M1 → R v M1 → Q (some (.int v)) M1) : Cn X (d + 3) mc ms kX8_key [.ref a0, .int (x1), .int (x2)] M Q := by
  unfold pX8_key at H
  refine g_meth rfl rfl (Nat.le_of_ble_eq_true rfl) rfl ?_
  refine g_iload_n 1 1 dX8_key_0 rfl rfl ?_
  refine g_callS (mc1 := 0) (ms1 := 0) (rest := []) (av := [.int (x1)]) kX8_isKey 4 dX8_key_1 rfl rfl mbX8_98 smX8_isKey (Nat.le_of_ble_eq_true rfl) (Nat.zero_le _) (Nat.zero_le _) (tX8_isKey  ?_)
  show Go X (d + 3) mc ms kX8_key Q 4 [(0, .ref a0), (1, .int (x1)), (2, .int (x2))] [.int ((fX8_isKey x1))] M 0 0
  generalize hv1 : (fX8_isKey x1) = v1
  replace H := H v1 hv1.symm
  refine g_if_ne 9 7 dX8_key_4 rfl rfl (fun c1 => ?_) (fun c1 => ?_)
  · skip
    replace H := H.1 c1
    refine g_aload_n 0 10 dX8_key_9 rfl rfl ?_
    refine g_getR 13 (a0 + 1) dX8_key_10 rfl flX8_14 s0.1 s0.2.1 ?_
    refine g_getR 16 ((a0 + 1) + 1) dX8_key_13 rfl flX8_102 s0.2.2.1.1 s0.2.2.1.2.1 ?_
    refine g_astore_n 17 [(3, .ref ((a0 + 1) + 1)), (0, .ref a0), (1, .int (x1)), (2, .int (x2))] dX8_key_16 rfl (Nat.le_of_ble_eq_true rfl) rfl ?_
    refine g_iload_n 3 18 dX8_key_17 rfl rfl ?_
    by_cases c2 : x2 = 0
    · refine h_tabIn (0) 52 dX8_key_18 c2 (by decide) (by decide) rfl rfl ?_
      replace H := H.1 c2
      refine g_aload_n 0 53 dX8_key_52 rfl rfl ?_
      refine g_iload_n 2 54 dX8_key_53 rfl rfl ?_
      obtain ⟨b1, H⟩ := H
      refine g_callV (mc1 := 0) (ms1 := 0) (b := ((a0 + 1) + 1)) (rest := []) (av := [.int (x1)]) kX3_has 57 dX8_key_54 rfl rfl mbX8_105 imX3_has seX3_has gcl3.1 s0.2.2.1.2.2.1.1 (Nat.le_of_ble_eq_true rfl) (Nat.zero_le _) (Nat.zero_le _) (tX3_has (N := N) s0.2.2.1.2.2.1 b1 ?_)
      show Go X (d + 3) mc ms kX8_key Q 57 [(3, .ref ((a0 + 1) + 1)), (0, .ref a0), (1, .int (x1)), (2, .int (x2))] [.int ((fX3_has N M ((a0 + 1) + 1) x1))] M 0 0
      generalize hv2 : (fX3_has N M ((a0 + 1) + 1) x1) = v2
      replace H := H v2 hv2.symm
      refine g_if_eq 64 60 dX8_key_57 rfl rfl (fun c3 => ?_) (fun c3 => ?_)
      · skip
        replace H := H.1 c3
        refine g_iconst (0) 65 dX8_key_64 rfl rfl ?_
        exact g_iret dX8_key_65 rfl (Nat.zero_le _) (Nat.zero_le _) (hR _ _ Sm.rf H)
      · skip
        replace H := H.2 c3
        refine g_iconst (1) 61 dX8_key_60 rfl rfl ?_
        refine g_goto 65 dX8_key_61 rfl ?_
        exact g_iret dX8_key_65 rfl (Nat.zero_le _) (Nat.zero_le _) (hR _ _ Sm.rf H)
    replace H := H.2 c2
    by_cases c4 : x2 = 1
    · refine h_tabIn (1) 66 dX8_key_18 c4 (by decide) (by decide) rfl rfl ?_
      replace H := H.1 c4
      refine g_aload_n 1 67 dX8_key_66 rfl rfl ?_
      refine g_getR 70 (a0 + 271) dX8_key_67 rfl flX8_45 s0.1 s0.2.2.2.2.2.2.2.2.2.2.2.2.2.1 ?_
      refine g_aload_n 1 71 dX8_key_70 rfl rfl ?_
      obtain ⟨b2, H⟩ := H
      refine g_callV (mc1 := 0) (ms1 := 0) (b := a0) (rest := [.ref (a0 + 271)]) (av := []) kX8_lawInForce 74 dX8_key_71 rfl rfl mbX8_108 imX8_lawInForce seX8_lawInForce gcl8.1 s0.1 (Nat.le_of_ble_eq_true rfl) (Nat.zero_le _) (Nat.zero_le _) (sX8_lawInForce_0 s0 b2 ?_)
      show Go X (d + 3) mc ms kX8_key Q 74 [(3, .ref ((a0 + 1) + 1)), (0, .ref a0), (1, .int (x1)), (2, .int (x2))] [.ref (aLaw M a0 (g_mi M (a0 + 1) 6)), .ref (a0 + 271)] M 0 0
      refine g_aload_n 0 75 dX8_key_74 rfl rfl ?_
      refine g_iload_n 2 76 dX8_key_75 rfl rfl ?_
      refine g_callV (mc1 := 0) (ms1 := 0) (b := (a0 + 271)) (rest := []) (av := [.ref (aLaw M a0 (g_mi M (a0 + 1) 6)), .ref ((a0 + 1) + 1), .int (x1)]) kX4_isBarred 79 dX8_key_76 rfl rfl mbX8_112 imX4_isBarred seX4_isBarred gcl4.1 s0.2.2.2.2.2.2.2.2.2.2.2.2.2.2.1.1 (Nat.le_of_ble_eq_true rfl) (Nat.zero_le _) (Nat.zero_le _) (uX4_isBarred (N := N) (K := K) s0.2.2.2.2.2.2.2.2.2.2.2.2.2.2.1 b2.2 s0.2.2.1.2.2.1 H (fun v3 M1 jj H => ?_))
      have j1 : Sm M M1 := jj
      show Go X (d + 3) mc ms kX8_key Q 79 [(3, .ref ((a0 + 1) + 1)), (0, .ref a0), (1, .int (x1)), (2, .int (x2))] [.int (v3)] M1 0 0
      refine g_if_eq 86 82 dX8_key_79 rfl rfl (fun c5 => ?_) (fun c5 => ?_)
      · skip
        replace H := H.1 c5
        refine g_iconst (0) 87 dX8_key_86 rfl rfl ?_
        exact g_iret dX8_key_87 rfl (Nat.zero_le _) (Nat.zero_le _) (hR _ _ j1 H)
      · skip
        replace H := H.2 c5
        refine g_iconst (1) 83 dX8_key_82 rfl rfl ?_
        refine g_goto 87 dX8_key_83 rfl ?_
        exact g_iret dX8_key_87 rfl (Nat.zero_le _) (Nat.zero_le _) (hR _ _ j1 H)
    replace H := H.2 c4
    by_cases c6 : x2 = 2
    · refine h_tabIn (2) 88 dX8_key_18 c6 (by decide) (by decide) rfl rfl ?_
      replace H := H.1 c6
      refine g_iload_n 2 89 dX8_key_88 rfl rfl ?_
      refine g_iload_n 3 90 dX8_key_89 rfl rfl ?_
      refine g_iconst (2) 91 dX8_key_90 rfl rfl ?_
      refine g_isub 92 dX8_key_91 rfl ?_
      refine g_aload_n 0 93 dX8_key_92 rfl rfl ?_
      refine g_getI 96 dX8_key_93 rfl flX8_116 s0.2.2.1.2.2.1.1 ?_
      refine g_aload_n 0 97 dX8_key_96 rfl rfl ?_
      refine g_getI 100 dX8_key_97 rfl flX8_119 s0.2.2.1.2.2.1.1 ?_
      obtain ⟨b3, H⟩ := H
      refine g_callS (mc1 := 0) (ms1 := 0) (rest := []) (av := [.int (x1), .int ((x2 - 2)), .int ((g_mi M ((a0 + 1) + 1) 5)), .int ((g_mi M ((a0 + 1) + 1) 4))]) kX8_vertexOf 103 dX8_key_100 rfl rfl mbX8_122 smX8_vertexOf (Nat.le_of_ble_eq_true rfl) (Nat.zero_le _) (Nat.zero_le _) (tX8_vertexOf b3 ?_)
      show Go X (d + 3) mc ms kX8_key Q 103 [(3, .ref ((a0 + 1) + 1)), (0, .ref a0), (1, .int (x1)), (2, .int (x2))] [.int ((fX8_vertexOf x1 (x2 - 2) (g_mi M ((a0 + 1) + 1) 5) (g_mi M ((a0 + 1) + 1) 4)))] M 0 0
      generalize hv4 : (fX8_vertexOf x1 (x2 - 2) (g_mi M ((a0 + 1) + 1) 5) (g_mi M ((a0 + 1) + 1) 4)) = v4
      replace H := H v4 hv4.symm
      exact g_iret dX8_key_103 rfl (Nat.zero_le _) (Nat.zero_le _) (hR _ _ Sm.rf H)
    replace H := H.2 c6
    by_cases c7 : x2 = 3
    · refine h_tabIn (3) 88 dX8_key_18 c7 (by decide) (by decide) rfl rfl ?_
      replace H := H.1 c7
      refine g_iload_n 2 89 dX8_key_88 rfl rfl ?_
      refine g_iload_n 3 90 dX8_key_89 rfl rfl ?_
      refine g_iconst (2) 91 dX8_key_90 rfl rfl ?_
      refine g_isub 92 dX8_key_91 rfl ?_
      refine g_aload_n 0 93 dX8_key_92 rfl rfl ?_
      refine g_getI 96 dX8_key_93 rfl flX8_116 s0.2.2.1.2.2.1.1 ?_
      refine g_aload_n 0 97 dX8_key_96 rfl rfl ?_
      refine g_getI 100 dX8_key_97 rfl flX8_119 s0.2.2.1.2.2.1.1 ?_
      obtain ⟨b4, H⟩ := H
      refine g_callS (mc1 := 0) (ms1 := 0) (rest := []) (av := [.int (x1), .int ((x2 - 2)), .int ((g_mi M ((a0 + 1) + 1) 5)), .int ((g_mi M ((a0 + 1) + 1) 4))]) kX8_vertexOf 103 dX8_key_100 rfl rfl mbX8_122 smX8_vertexOf (Nat.le_of_ble_eq_true rfl) (Nat.zero_le _) (Nat.zero_le _) (tX8_vertexOf b4 ?_)
      show Go X (d + 3) mc ms kX8_key Q 103 [(3, .ref ((a0 + 1) + 1)), (0, .ref a0), (1, .int (x1)), (2, .int (x2))] [.int ((fX8_vertexOf x1 (x2 - 2) (g_mi M ((a0 + 1) + 1) 5) (g_mi M ((a0 + 1) + 1) 4)))] M 0 0
      generalize hv5 : (fX8_vertexOf x1 (x2 - 2) (g_mi M ((a0 + 1) + 1) 5) (g_mi M ((a0 + 1) + 1) 4)) = v5
      replace H := H v5 hv5.symm
      exact g_iret dX8_key_103 rfl (Nat.zero_le _) (Nat.zero_le _) (hR _ _ Sm.rf H)
    replace H := H.2 c7
    by_cases c8 : x2 = 4
    · refine h_tabIn (4) 88 dX8_key_18 c8 (by decide) (by decide) rfl rfl ?_
      replace H := H.1 c8
      refine g_iload_n 2 89 dX8_key_88 rfl rfl ?_
      refine g_iload_n 3 90 dX8_key_89 rfl rfl ?_
      refine g_iconst (2) 91 dX8_key_90 rfl rfl ?_
      refine g_isub 92 dX8_key_91 rfl ?_
      refine g_aload_n 0 93 dX8_key_92 rfl rfl ?_
      refine g_getI 96 dX8_key_93 rfl flX8_116 s0.2.2.1.2.2.1.1 ?_
      refine g_aload_n 0 97 dX8_key_96 rfl rfl ?_
      refine g_getI 100 dX8_key_97 rfl flX8_119 s0.2.2.1.2.2.1.1 ?_
      obtain ⟨b5, H⟩ := H
      refine g_callS (mc1 := 0) (ms1 := 0) (rest := []) (av := [.int (x1), .int ((x2 - 2)), .int ((g_mi M ((a0 + 1) + 1) 5)), .int ((g_mi M ((a0 + 1) + 1) 4))]) kX8_vertexOf 103 dX8_key_100 rfl rfl mbX8_122 smX8_vertexOf (Nat.le_of_ble_eq_true rfl) (Nat.zero_le _) (Nat.zero_le _) (tX8_vertexOf b5 ?_)
      show Go X (d + 3) mc ms kX8_key Q 103 [(3, .ref ((a0 + 1) + 1)), (0, .ref a0), (1, .int (x1)), (2, .int (x2))] [.int ((fX8_vertexOf x1 (x2 - 2) (g_mi M ((a0 + 1) + 1) 5) (g_mi M ((a0 + 1) + 1) 4)))] M 0 0
      generalize hv6 : (fX8_vertexOf x1 (x2 - 2) (g_mi M ((a0 + 1) + 1) 5) (g_mi M ((a0 + 1) + 1) 4)) = v6
      replace H := H v6 hv6.symm
      exact g_iret dX8_key_103 rfl (Nat.zero_le _) (Nat.zero_le _) (hR _ _ Sm.rf H)
    replace H := H.2 c8
    have tc2 := i_neT c2
    rw [show ((0 : Int32)).toInt = 0 from rfl] at tc2
    have tc4 := i_neT c4
    rw [show ((1 : Int32)).toInt = 1 from rfl] at tc4
    have tc6 := i_neT c6
    rw [show ((2 : Int32)).toInt = 2 from rfl] at tc6
    have tc7 := i_neT c7
    rw [show ((3 : Int32)).toInt = 3 from rfl] at tc7
    have tc8 := i_neT c8
    rw [show ((4 : Int32)).toInt = 4 from rfl] at tc8
    refine g_tableOut 104 dX8_key_18 (by omega) rfl ?_
    refine g_iconst ((-1)) 105 dX8_key_104 rfl rfl ?_
    exact g_iret dX8_key_105 rfl (Nat.zero_le _) (Nat.zero_le _) (hR _ _ Sm.rf H)
  · skip
    replace H := H.2 c1
    refine g_iconst ((-1)) 8 dX8_key_7 rfl rfl ?_
    exact g_iret dX8_key_8 rfl (Nat.zero_le _) (Nat.zero_le _) (hR _ _ Sm.rf H)
/-! X8_vertex -/
def pX8_vertex (N K : Nat) (M : gM) (a0 : Nat) (x1 : Int32) (x2 : Int32) (R : Int32 → gM → Prop) : Prop := ∀ v1 : Int32, v1 = (fX3_hasVertex M ((a0 + 1) + 1) x1) → ((v1 = 0 → R (-1) M) ∧ (¬ v1 = 0 → ((x2 < 0 → R (-1) M) ∧ (¬ x2 < 0 → ((x2 ≤ 1 → (EX3_degreeOf N M ((a0 + 1) + 1) x1) ∧ ∀ v2 : Int32, v2 = (fX3_degreeOf N M ((a0 + 1) + 1) x1) → ((¬ x2 = 0 → (EX8_lawNumbered M a0 (g_mi M (a0 + 1) 6)) ∧ pX4_rankOf N K M (a0 + 271) (aLaw M a0 (g_mi M (a0 + 1) 6)) (kl M ((aLaw M a0 (g_mi M (a0 + 1) 6)) + 1)) (kl M ((aLaw M a0 (g_mi M (a0 + 1) 6)) + 5)) ((a0 + 1) + 1) (g_mi M ((a0 + 1) + 1) 5) x1 v2 (fun v3 M1 => R v3 M1)) ∧ (x2 = 0 → R v2 M))) ∧ (¬ x2 ≤ 1 → R (-1) M))))))
set_option maxRecDepth 10000 in
theorem uX8_vertex {N K : Nat} {X : gX} {d mc ms : Nat} {Q : Option Value → gM → Prop} {M : gM} {a0 : Nat} {x1 : Int32} {x2 : Int32} {R : Int32 → gM → Prop} (s0 : Ph M a0) (H : pX8_vertex N K M a0 x1 x2 R) (hR : ∀ (v : Int32) (M1 : gM), Sm M M1 → R v M1 → Q (some (.int v)) M1) : Cn X (d + 3) mc ms kX8_vertex [.ref a0, .int (x1), .int (x2)] M Q := by
  unfold pX8_vertex at H
  refine g_meth rfl rfl (Nat.le_of_ble_eq_true rfl) rfl ?_
  refine g_aload_n 0 1 dX8_vertex_0 rfl rfl ?_
  refine g_getR 4 (a0 + 1) dX8_vertex_1 rfl flX8_14 s0.1 s0.2.1 ?_
  refine g_getR 7 ((a0 + 1) + 1) dX8_vertex_4 rfl flX8_102 s0.2.2.1.1 s0.2.2.1.2.1 ?_
  refine g_astore_n 8 [(3, .ref ((a0 + 1) + 1)), (0, .ref a0), (1, .int (x1)), (2, .int (x2))] dX8_vertex_7 rfl (Nat.le_of_ble_eq_true rfl) rfl ?_
  refine g_aload_n 0 9 dX8_vertex_8 rfl rfl ?_
  refine g_iload_n 2 10 dX8_vertex_9 rfl rfl ?_
  refine g_callV (mc1 := 0) (ms1 := 0) (b := ((a0 + 1) + 1)) (rest := []) (av := [.int (x1)]) kX3_hasVertex 13 dX8_vertex_10 rfl rfl mbX8_126 imX3_hasVertex seX3_hasVertex gcl3.1 s0.2.2.1.2.2.1.1 (Nat.le_of_ble_eq_true rfl) (Nat.zero_le _) (Nat.zero_le _) (tX3_hasVertex s0.2.2.1.2.2.1 ?_)
  show Go X (d + 3) mc ms kX8_vertex Q 13 [(3, .ref ((a0 + 1) + 1)), (0, .ref a0), (1, .int (x1)), (2, .int (x2))] [.int ((fX3_hasVertex M ((a0 + 1) + 1) x1))] M 0 0
  generalize hv1 : (fX3_hasVertex M ((a0 + 1) + 1) x1) = v1
  replace H := H v1 hv1.symm
  refine g_if_eq 25 16 dX8_vertex_13 rfl rfl (fun c1 => ?_) (fun c1 => ?_)
  · skip
    replace H := H.1 c1
    refine g_iconst ((-1)) 26 dX8_vertex_25 rfl rfl ?_
    exact g_iret dX8_vertex_26 rfl (Nat.zero_le _) (Nat.zero_le _) (hR _ _ Sm.rf H)
  · skip
    replace H := H.2 c1
    refine g_iload_n 3 17 dX8_vertex_16 rfl rfl ?_
    refine g_if_lt 25 20 dX8_vertex_17 rfl rfl (fun c2 => ?_) (fun c2 => ?_)
    · skip
      replace H := H.1 c2
      refine g_iconst ((-1)) 26 dX8_vertex_25 rfl rfl ?_
      exact g_iret dX8_vertex_26 rfl (Nat.zero_le _) (Nat.zero_le _) (hR _ _ Sm.rf H)
    · skip
      replace H := H.2 c2
      refine g_iload_n 3 21 dX8_vertex_20 rfl rfl ?_
      refine g_iconst (1) 22 dX8_vertex_21 rfl rfl ?_
      refine g_icmp_le 27 25 dX8_vertex_22 rfl rfl (fun c3 => ?_) (fun c3 => ?_)
      · skip
        replace H := H.1 c3
        refine g_aload_n 0 28 dX8_vertex_27 rfl rfl ?_
        refine g_iload_n 2 29 dX8_vertex_28 rfl rfl ?_
        obtain ⟨b1, H⟩ := H
        refine g_callV (mc1 := 0) (ms1 := 0) (b := ((a0 + 1) + 1)) (rest := []) (av := [.int (x1)]) kX3_degreeOf 32 dX8_vertex_29 rfl rfl mbX8_129 imX3_degreeOf seX3_degreeOf gcl3.1 s0.2.2.1.2.2.1.1 (Nat.le_of_ble_eq_true rfl) (Nat.zero_le _) (Nat.zero_le _) (tX3_degreeOf (N := N) s0.2.2.1.2.2.1 b1 ?_)
        show Go X (d + 3) mc ms kX8_vertex Q 32 [(3, .ref ((a0 + 1) + 1)), (0, .ref a0), (1, .int (x1)), (2, .int (x2))] [.int ((fX3_degreeOf N M ((a0 + 1) + 1) x1))] M 0 0
        generalize hv2 : (fX3_degreeOf N M ((a0 + 1) + 1) x1) = v2
        replace H := H v2 hv2.symm
        refine g_istore 34 [(4, .int (v2)), (3, .ref ((a0 + 1) + 1)), (0, .ref a0), (1, .int (x1)), (2, .int (x2))] dX8_vertex_32 rfl (Nat.le_of_ble_eq_true rfl) rfl ?_
        refine g_iload_n 4 35 dX8_vertex_34 rfl rfl ?_
        refine g_if_ne 43 38 dX8_vertex_35 rfl rfl (fun c4 => ?_) (fun c4 => ?_)
        · skip
          replace H := H.1 c4
          refine g_aload_n 2 44 dX8_vertex_43 rfl rfl ?_
          refine g_getR 47 (a0 + 271) dX8_vertex_44 rfl flX8_45 s0.1 s0.2.2.2.2.2.2.2.2.2.2.2.2.2.1 ?_
          refine g_aload_n 2 48 dX8_vertex_47 rfl rfl ?_
          obtain ⟨b2, H⟩ := H
          refine g_callV (mc1 := 0) (ms1 := 0) (b := a0) (rest := [.ref (a0 + 271)]) (av := []) kX8_lawInForce 51 dX8_vertex_48 rfl rfl mbX8_108 imX8_lawInForce seX8_lawInForce gcl8.1 s0.1 (Nat.le_of_ble_eq_true rfl) (Nat.zero_le _) (Nat.zero_le _) (sX8_lawInForce_0 s0 b2 ?_)
          show Go X (d + 3) mc ms kX8_vertex Q 51 [(4, .int (v2)), (3, .ref ((a0 + 1) + 1)), (0, .ref a0), (1, .int (x1)), (2, .int (x2))] [.ref (aLaw M a0 (g_mi M (a0 + 1) 6)), .ref (a0 + 271)] M 0 0
          refine g_aload_n 1 52 dX8_vertex_51 rfl rfl ?_
          refine g_aload_n 1 53 dX8_vertex_52 rfl rfl ?_
          refine g_getI 56 dX8_vertex_53 rfl flX8_116 s0.2.2.1.2.2.1.1 ?_
          refine g_iload_n 3 57 dX8_vertex_56 rfl rfl ?_
          refine g_iload 0 59 dX8_vertex_57 rfl rfl ?_
          refine g_callV (mc1 := 0) (ms1 := 0) (b := (a0 + 271)) (rest := []) (av := [.ref (aLaw M a0 (g_mi M (a0 + 1) 6)), .ref ((a0 + 1) + 1), .int ((g_mi M ((a0 + 1) + 1) 5)), .int (x1), .int (v2)]) kX4_rankOf 62 dX8_vertex_59 rfl rfl mbX8_133 imX4_rankOf seX4_rankOf gcl4.1 s0.2.2.2.2.2.2.2.2.2.2.2.2.2.2.1.1 (Nat.le_of_ble_eq_true rfl) (Nat.zero_le _) (Nat.zero_le _) (uX4_rankOf (N := N) (K := K) s0.2.2.2.2.2.2.2.2.2.2.2.2.2.2.1 b2.2 s0.2.2.1.2.2.1 H (fun v3 M1 jj H => ?_))
          have j1 : Sm M M1 := jj
          show Go X (d + 3) mc ms kX8_vertex Q 62 [(4, .int (v2)), (3, .ref ((a0 + 1) + 1)), (0, .ref a0), (1, .int (x1)), (2, .int (x2))] [.int (v3)] M1 0 0
          exact g_iret dX8_vertex_62 rfl (Nat.zero_le _) (Nat.zero_le _) (hR _ _ j1 H)
        · skip
          replace H := H.2 c4
          refine g_iload 0 40 dX8_vertex_38 rfl rfl ?_
          refine g_goto 62 dX8_vertex_40 rfl ?_
          exact g_iret dX8_vertex_62 rfl (Nat.zero_le _) (Nat.zero_le _) (hR _ _ Sm.rf H)
      · skip
        replace H := H.2 c3
        refine g_iconst ((-1)) 26 dX8_vertex_25 rfl rfl ?_
        exact g_iret dX8_vertex_26 rfl (Nat.zero_le _) (Nat.zero_le _) (hR _ _ Sm.rf H)
/-! X8_peeled -/
def pX8_peeled (N K : Nat) (M : gM) (a0 : Nat) (x1 : Int32) (x2 : Int32) (R : Int32 → gM → Prop) : Prop := ((x1 < 0 → R (-1) M) ∧ (¬ x1 < 0 → (((g_mi M ((a0 + 1) + 1) 3) ≤ x1 → R (-1) M) ∧ (¬ (g_mi M ((a0 + 1) + 1) 3) ≤ x1 → ((x2 < 0 → R (-1) M) ∧ (¬ x2 < 0 → ((x2 ≤ 1 → (EX8_lawNumbered M a0 (g_mi M (a0 + 1) 6)) ∧ pX1_peel N K M (a0 + 274) ((a0 + 1) + 1) (g_mi M ((a0 + 1) + 1) 5) (aLaw M a0 (g_mi M (a0 + 1) 6)) (kl M ((aLaw M a0 (g_mi M (a0 + 1) 6)) + 1)) (kl M ((aLaw M a0 (g_mi M (a0 + 1) 6)) + 5)) (fun M1 => ((x1 < (g_mi M1 (a0 + 274) 8) → ((¬ x2 = 0 → (vp_in (x1) 30) ∧ R (g_mi M1 ((a0 + 274) + 3) (x1).toNatClampNeg) M1) ∧ (x2 = 0 → (vp_in (x1) 30) ∧ (vp_in ((g_mi M1 ((a0 + 274) + 2) (x1).toNatClampNeg)) 30) ∧ R (g_mi M1 (((a0 + 1) + 1) + 1) ((g_mi M1 ((a0 + 274) + 2) (x1).toNatClampNeg)).toNatClampNeg) M1))) ∧ (¬ x1 < (g_mi M1 (a0 + 274) 8) → R (-1) M1)))) ∧ (¬ x2 ≤ 1 → R (-1) M))))))))
set_option maxRecDepth 10000 in
theorem uX8_peeled {N K : Nat} {X : gX} {d mc ms : Nat} {Q : Option Value → gM → Prop} {M : gM} {a0 : Nat} {x1 : Int32} {x2 : Int32} {R : Int32 → gM → Prop} (s0 : Ph M a0) (H : pX8_peeled N K M a0 x1 x2 R) (hR : ∀ (v : Int32) (M1 : gM), Sm M M1 → R v M1 → Q (some (.int v)) M1) : Cn X (d + 4) mc ms kX8_peeled [.ref a0, .int (x1), .int (x2)] M Q := by
  unfold pX8_peeled at H
  refine g_meth rfl rfl (Nat.le_of_ble_eq_true rfl) rfl ?_
  refine g_aload_n 0 1 dX8_peeled_0 rfl rfl ?_
  refine g_getR 4 (a0 + 1) dX8_peeled_1 rfl flX8_14 s0.1 s0.2.1 ?_
  refine g_getR 7 ((a0 + 1) + 1) dX8_peeled_4 rfl flX8_102 s0.2.2.1.1 s0.2.2.1.2.1 ?_
  refine g_astore_n 8 [(3, .ref ((a0 + 1) + 1)), (0, .ref a0), (1, .int (x1)), (2, .int (x2))] dX8_peeled_7 rfl (Nat.le_of_ble_eq_true rfl) rfl ?_
  refine g_iload_n 2 9 dX8_peeled_8 rfl rfl ?_
  refine g_if_lt 29 12 dX8_peeled_9 rfl rfl (fun c1 => ?_) (fun c1 => ?_)
  · skip
    replace H := H.1 c1
    refine g_iconst ((-1)) 30 dX8_peeled_29 rfl rfl ?_
    exact g_iret dX8_peeled_30 rfl (Nat.zero_le _) (Nat.zero_le _) (hR _ _ Sm.rf H)
  · skip
    replace H := H.2 c1
    refine g_iload_n 2 13 dX8_peeled_12 rfl rfl ?_
    refine g_aload_n 0 14 dX8_peeled_13 rfl rfl ?_
    refine g_getI 17 dX8_peeled_14 rfl flX8_137 s0.2.2.1.2.2.1.1 ?_
    refine g_icmp_ge 29 20 dX8_peeled_17 rfl rfl (fun c2 => ?_) (fun c2 => ?_)
    · skip
      replace H := H.1 c2
      refine g_iconst ((-1)) 30 dX8_peeled_29 rfl rfl ?_
      exact g_iret dX8_peeled_30 rfl (Nat.zero_le _) (Nat.zero_le _) (hR _ _ Sm.rf H)
    · skip
      replace H := H.2 c2
      refine g_iload_n 3 21 dX8_peeled_20 rfl rfl ?_
      refine g_if_lt 29 24 dX8_peeled_21 rfl rfl (fun c3 => ?_) (fun c3 => ?_)
      · skip
        replace H := H.1 c3
        refine g_iconst ((-1)) 30 dX8_peeled_29 rfl rfl ?_
        exact g_iret dX8_peeled_30 rfl (Nat.zero_le _) (Nat.zero_le _) (hR _ _ Sm.rf H)
      · skip
        replace H := H.2 c3
        refine g_iload_n 3 25 dX8_peeled_24 rfl rfl ?_
        refine g_iconst (1) 26 dX8_peeled_25 rfl rfl ?_
        refine g_icmp_le 31 29 dX8_peeled_26 rfl rfl (fun c4 => ?_) (fun c4 => ?_)
        · skip
          replace H := H.1 c4
          refine g_aload_n 1 32 dX8_peeled_31 rfl rfl ?_
          refine g_getR 35 (a0 + 274) dX8_peeled_32 rfl flX8_54 s0.1 s0.2.2.2.2.2.2.2.2.2.2.2.2.2.2.2.1 ?_
          refine g_aload_n 0 36 dX8_peeled_35 rfl rfl ?_
          refine g_aload_n 0 37 dX8_peeled_36 rfl rfl ?_
          refine g_getI 40 dX8_peeled_37 rfl flX8_116 s0.2.2.1.2.2.1.1 ?_
          refine g_aload_n 1 41 dX8_peeled_40 rfl rfl ?_
          obtain ⟨b1, H⟩ := H
          refine g_callV (mc1 := 0) (ms1 := 0) (b := a0) (rest := [.int ((g_mi M ((a0 + 1) + 1) 5)), .ref ((a0 + 1) + 1), .ref (a0 + 274)]) (av := []) kX8_lawInForce 44 dX8_peeled_41 rfl rfl mbX8_108 imX8_lawInForce seX8_lawInForce gcl8.1 s0.1 (Nat.le_of_ble_eq_true rfl) (Nat.zero_le _) (Nat.zero_le _) (sX8_lawInForce_0 s0 b1 ?_)
          show Go X (d + 4) mc ms kX8_peeled Q 44 [(3, .ref ((a0 + 1) + 1)), (0, .ref a0), (1, .int (x1)), (2, .int (x2))] [.ref (aLaw M a0 (g_mi M (a0 + 1) 6)), .int ((g_mi M ((a0 + 1) + 1) 5)), .ref ((a0 + 1) + 1), .ref (a0 + 274)] M 0 0
          refine g_callV (mc1 := 0) (ms1 := 0) (b := (a0 + 274)) (rest := []) (av := [.ref ((a0 + 1) + 1), .int ((g_mi M ((a0 + 1) + 1) 5)), .ref (aLaw M a0 (g_mi M (a0 + 1) 6))]) kX1_peel 47 dX8_peeled_44 rfl rfl mbX8_233 imX1_peel seX1_peel gcl1.1 s0.2.2.2.2.2.2.2.2.2.2.2.2.2.2.2.2.1.1 (Nat.le_of_ble_eq_true rfl) (Nat.zero_le _) (Nat.zero_le _) (uX1_peel (N := N) (K := K) s0.2.2.2.2.2.2.2.2.2.2.2.2.2.2.2.2.1 s0.2.2.1.2.2.1 b1.2 H (fun M1 jj H => ?_))
          have j1 : Sm M M1 := jj
          show Go X (d + 4) mc ms kX8_peeled Q 47 [(3, .ref ((a0 + 1) + 1)), (0, .ref a0), (1, .int (x1)), (2, .int (x2))] [] M1 0 0
          refine g_iload_n 2 48 dX8_peeled_47 rfl rfl ?_
          refine g_aload_n 1 49 dX8_peeled_48 rfl rfl ?_
          refine g_getR 52 (a0 + 274) dX8_peeled_49 rfl flX8_54 (Sm.k j1 s0.1) (Sm.r j1 s0.2.2.2.2.2.2.2.2.2.2.2.2.2.2.2.1) ?_
          refine g_getI 55 dX8_peeled_52 rfl flX8_237 (Sm.k j1 s0.2.2.2.2.2.2.2.2.2.2.2.2.2.2.2.2.1.1) ?_
          refine g_icmp_lt 60 58 dX8_peeled_55 rfl rfl (fun c5 => ?_) (fun c5 => ?_)
          · skip
            replace H := H.1 c5
            refine g_iload_n 3 61 dX8_peeled_60 rfl rfl ?_
            refine g_if_ne 81 64 dX8_peeled_61 rfl rfl (fun c6 => ?_) (fun c6 => ?_)
            · skip
              replace H := H.1 c6
              refine g_aload_n 1 82 dX8_peeled_81 rfl rfl ?_
              refine g_getR 85 (a0 + 274) dX8_peeled_82 rfl flX8_54 (Sm.k j1 s0.1) (Sm.r j1 s0.2.2.2.2.2.2.2.2.2.2.2.2.2.2.2.1) ?_
              refine g_getR 88 ((a0 + 274) + 3) dX8_peeled_85 rfl flX8_243 (Sm.k j1 s0.2.2.2.2.2.2.2.2.2.2.2.2.2.2.2.2.1.1) (Sm.r j1 s0.2.2.2.2.2.2.2.2.2.2.2.2.2.2.2.2.1.2.2.2.2.2.1) ?_
              refine g_iload_n 2 89 dX8_peeled_88 rfl rfl ?_
              obtain ⟨b2, H⟩ := H
              refine h_iaload 90 (x1).toNatClampNeg dX8_peeled_89 rfl rfl (Sm.k j1 s0.2.2.2.2.2.2.2.2.2.2.2.2.2.2.2.2.1.2.2.2.2.2.2.1) b2 ?_
              exact g_iret dX8_peeled_90 rfl (Nat.zero_le _) (Nat.zero_le _) (hR _ _ j1 H)
            · skip
              replace H := H.2 c6
              refine g_aload_n 0 65 dX8_peeled_64 rfl rfl ?_
              refine g_getR 68 (((a0 + 1) + 1) + 1) dX8_peeled_65 rfl flX8_140 (Sm.k j1 s0.2.2.1.2.2.1.1) (Sm.r j1 s0.2.2.1.2.2.1.2.1) ?_
              refine g_aload_n 1 69 dX8_peeled_68 rfl rfl ?_
              refine g_getR 72 (a0 + 274) dX8_peeled_69 rfl flX8_54 (Sm.k j1 s0.1) (Sm.r j1 s0.2.2.2.2.2.2.2.2.2.2.2.2.2.2.2.1) ?_
              refine g_getR 75 ((a0 + 274) + 2) dX8_peeled_72 rfl flX8_240 (Sm.k j1 s0.2.2.2.2.2.2.2.2.2.2.2.2.2.2.2.2.1.1) (Sm.r j1 s0.2.2.2.2.2.2.2.2.2.2.2.2.2.2.2.2.1.2.2.2.1) ?_
              refine g_iload_n 2 76 dX8_peeled_75 rfl rfl ?_
              obtain ⟨b3, H⟩ := H
              refine h_iaload 77 (x1).toNatClampNeg dX8_peeled_76 rfl rfl (Sm.k j1 s0.2.2.2.2.2.2.2.2.2.2.2.2.2.2.2.2.1.2.2.2.2.1) b3 ?_
              obtain ⟨b4, H⟩ := H
              refine h_iaload 78 ((g_mi M1 ((a0 + 274) + 2) (x1).toNatClampNeg)).toNatClampNeg dX8_peeled_77 rfl rfl (Sm.k j1 s0.2.2.1.2.2.1.2.2.1) b4 ?_
              refine g_goto 90 dX8_peeled_78 rfl ?_
              exact g_iret dX8_peeled_90 rfl (Nat.zero_le _) (Nat.zero_le _) (hR _ _ j1 H)
          · skip
            replace H := H.2 c5
            refine g_iconst ((-1)) 59 dX8_peeled_58 rfl rfl ?_
            exact g_iret dX8_peeled_59 rfl (Nat.zero_le _) (Nat.zero_le _) (hR _ _ j1 H)
        · skip
          replace H := H.2 c4
          refine g_iconst ((-1)) 30 dX8_peeled_29 rfl rfl ?_
          exact g_iret dX8_peeled_30 rfl (Nat.zero_le _) (Nat.zero_le _) (hR _ _ Sm.rf H)
/-! X8_compare -/
def pX8_compare (N K : Nat) (M : gM) (a0 : Nat) (x1 : Int32) (x2 : Int32) (R : Int32 → gM → Prop) : Prop := ((x1 < (-1) → R (-1) M) ∧ (¬ x1 < (-1) → (((g_mi M (a0 + 1) 5) ≤ x1 → R (-1) M) ∧ (¬ (g_mi M (a0 + 1) 5) ≤ x1 → ∀ v1 : Int32, v1 = (fX3_hasVertex M ((a0 + 1) + 1) x2) → ((¬ v1 = 0 → (EX8_lawNumbered M a0 x1) ∧ (EX3_degreeOf N M ((a0 + 1) + 1) x2) ∧ ∀ v2 : Int32, v2 = (fX3_degreeOf N M ((a0 + 1) + 1) x2) → pX4_rankOf N K M (a0 + 271) (aLaw M a0 x1) (kl M ((aLaw M a0 x1) + 1)) (kl M ((aLaw M a0 x1) + 5)) ((a0 + 1) + 1) (g_mi M ((a0 + 1) + 1) 5) x2 v2 (fun v3 M1 => R v3 M1)) ∧ (v1 = 0 → R (-1) M))))))
set_option maxRecDepth 10000 in
theorem uX8_compare {N K : Nat} {X : gX} {d mc ms : Nat} {Q : Option Value → gM → Prop} {M : gM} {a0 : Nat} {x1 : Int32} {x2 : Int32} {R : Int32 → gM → Prop} (s0 : Ph M a0) (H : pX8_compare N K M a0 x1 x2 R) (hR : ∀ (v : Int32) (M1 : gM), Sm M M1 → R v M1 → Q (some (.int v)) M1) : Cn X (d + 3) mc ms kX8_compare [.ref a0, .int (x1), .int (x2)] M Q := by
  unfold pX8_compare at H
  refine g_meth rfl rfl (Nat.le_of_ble_eq_true rfl) rfl ?_
  refine g_aload_n 0 1 dX8_compare_0 rfl rfl ?_
  refine g_getR 4 (a0 + 1) dX8_compare_1 rfl flX8_14 s0.1 s0.2.1 ?_
  refine g_getR 7 ((a0 + 1) + 1) dX8_compare_4 rfl flX8_102 s0.2.2.1.1 s0.2.2.1.2.1 ?_
  refine g_astore_n 8 [(3, .ref ((a0 + 1) + 1)), (0, .ref a0), (1, .int (x1)), (2, .int (x2))] dX8_compare_7 rfl (Nat.le_of_ble_eq_true rfl) rfl ?_
  refine g_iload_n 2 9 dX8_compare_8 rfl rfl ?_
  refine g_iconst ((-1)) 10 dX8_compare_9 rfl rfl ?_
  refine g_icmp_lt 32 13 dX8_compare_10 rfl rfl (fun c1 => ?_) (fun c1 => ?_)
  · skip
    replace H := H.1 c1
    refine g_iconst ((-1)) 33 dX8_compare_32 rfl rfl ?_
    exact g_iret dX8_compare_33 rfl (Nat.zero_le _) (Nat.zero_le _) (hR _ _ Sm.rf H)
  · skip
    replace H := H.2 c1
    refine g_iload_n 2 14 dX8_compare_13 rfl rfl ?_
    refine g_aload_n 1 15 dX8_compare_14 rfl rfl ?_
    refine g_getR 18 (a0 + 1) dX8_compare_15 rfl flX8_14 s0.1 s0.2.1 ?_
    refine g_getI 21 dX8_compare_18 rfl flX8_175 s0.2.2.1.1 ?_
    refine g_icmp_ge 32 24 dX8_compare_21 rfl rfl (fun c2 => ?_) (fun c2 => ?_)
    · skip
      replace H := H.1 c2
      refine g_iconst ((-1)) 33 dX8_compare_32 rfl rfl ?_
      exact g_iret dX8_compare_33 rfl (Nat.zero_le _) (Nat.zero_le _) (hR _ _ Sm.rf H)
    · skip
      replace H := H.2 c2
      refine g_aload_n 0 25 dX8_compare_24 rfl rfl ?_
      refine g_iload_n 3 26 dX8_compare_25 rfl rfl ?_
      refine g_callV (mc1 := 0) (ms1 := 0) (b := ((a0 + 1) + 1)) (rest := []) (av := [.int (x2)]) kX3_hasVertex 29 dX8_compare_26 rfl rfl mbX8_126 imX3_hasVertex seX3_hasVertex gcl3.1 s0.2.2.1.2.2.1.1 (Nat.le_of_ble_eq_true rfl) (Nat.zero_le _) (Nat.zero_le _) (tX3_hasVertex s0.2.2.1.2.2.1 ?_)
      show Go X (d + 3) mc ms kX8_compare Q 29 [(3, .ref ((a0 + 1) + 1)), (0, .ref a0), (1, .int (x1)), (2, .int (x2))] [.int ((fX3_hasVertex M ((a0 + 1) + 1) x2))] M 0 0
      generalize hv1 : (fX3_hasVertex M ((a0 + 1) + 1) x2) = v1
      replace H := H v1 hv1.symm
      refine g_if_ne 34 32 dX8_compare_29 rfl rfl (fun c3 => ?_) (fun c3 => ?_)
      · skip
        replace H := H.1 c3
        refine g_aload_n 1 35 dX8_compare_34 rfl rfl ?_
        refine g_getR 38 (a0 + 271) dX8_compare_35 rfl flX8_45 s0.1 s0.2.2.2.2.2.2.2.2.2.2.2.2.2.1 ?_
        refine g_aload_n 1 39 dX8_compare_38 rfl rfl ?_
        refine g_iload_n 2 40 dX8_compare_39 rfl rfl ?_
        obtain ⟨b1, H⟩ := H
        refine g_callV (mc1 := 0) (ms1 := 0) (b := a0) (rest := [.ref (a0 + 271)]) (av := [.int (x1)]) kX8_lawNumbered 43 dX8_compare_40 rfl rfl mbX8_316 imX8_lawNumbered seX8_lawNumbered gcl8.1 s0.1 (Nat.le_of_ble_eq_true rfl) (Nat.zero_le _) (Nat.zero_le _) (tX8_lawNumbered s0 b1 ?_)
        show Go X (d + 3) mc ms kX8_compare Q 43 [(3, .ref ((a0 + 1) + 1)), (0, .ref a0), (1, .int (x1)), (2, .int (x2))] [.ref (aLaw M a0 x1), .ref (a0 + 271)] M 0 0
        refine g_aload_n 0 44 dX8_compare_43 rfl rfl ?_
        refine g_aload_n 0 45 dX8_compare_44 rfl rfl ?_
        refine g_getI 48 dX8_compare_45 rfl flX8_116 s0.2.2.1.2.2.1.1 ?_
        refine g_iload_n 3 49 dX8_compare_48 rfl rfl ?_
        refine g_aload_n 0 50 dX8_compare_49 rfl rfl ?_
        refine g_iload_n 3 51 dX8_compare_50 rfl rfl ?_
        obtain ⟨b2, H⟩ := H
        refine g_callV (mc1 := 0) (ms1 := 0) (b := ((a0 + 1) + 1)) (rest := [.int (x2), .int ((g_mi M ((a0 + 1) + 1) 5)), .ref ((a0 + 1) + 1), .ref (aLaw M a0 x1), .ref (a0 + 271)]) (av := [.int (x2)]) kX3_degreeOf 54 dX8_compare_51 rfl rfl mbX8_129 imX3_degreeOf seX3_degreeOf gcl3.1 s0.2.2.1.2.2.1.1 (Nat.le_of_ble_eq_true rfl) (Nat.zero_le _) (Nat.zero_le _) (tX3_degreeOf (N := N) s0.2.2.1.2.2.1 b2 ?_)
        show Go X (d + 3) mc ms kX8_compare Q 54 [(3, .ref ((a0 + 1) + 1)), (0, .ref a0), (1, .int (x1)), (2, .int (x2))] [.int ((fX3_degreeOf N M ((a0 + 1) + 1) x2)), .int (x2), .int ((g_mi M ((a0 + 1) + 1) 5)), .ref ((a0 + 1) + 1), .ref (aLaw M a0 x1), .ref (a0 + 271)] M 0 0
        generalize hv2 : (fX3_degreeOf N M ((a0 + 1) + 1) x2) = v2
        replace H := H v2 hv2.symm
        refine g_callV (mc1 := 0) (ms1 := 0) (b := (a0 + 271)) (rest := []) (av := [.ref (aLaw M a0 x1), .ref ((a0 + 1) + 1), .int ((g_mi M ((a0 + 1) + 1) 5)), .int (x2), .int (v2)]) kX4_rankOf 57 dX8_compare_54 rfl rfl mbX8_133 imX4_rankOf seX4_rankOf gcl4.1 s0.2.2.2.2.2.2.2.2.2.2.2.2.2.2.1.1 (Nat.le_of_ble_eq_true rfl) (Nat.zero_le _) (Nat.zero_le _) (uX4_rankOf (N := N) (K := K) s0.2.2.2.2.2.2.2.2.2.2.2.2.2.2.1 b1.2 s0.2.2.1.2.2.1 H (fun v3 M1 jj H => ?_))
        have j1 : Sm M M1 := jj
        show Go X (d + 3) mc ms kX8_compare Q 57 [(3, .ref ((a0 + 1) + 1)), (0, .ref a0), (1, .int (x1)), (2, .int (x2))] [.int (v3)] M1 0 0
        exact g_iret dX8_compare_57 rfl (Nat.zero_le _) (Nat.zero_le _) (hR _ _ j1 H)
      · skip
        replace H := H.2 c3
        refine g_iconst ((-1)) 33 dX8_compare_32 rfl rfl ?_
        exact g_iret dX8_compare_33 rfl (Nat.zero_le _) (Nat.zero_le _) (hR _ _ Sm.rf H)
/-! X8_addTo -/
def pX8_addTo (N K : Nat) (M : gM) (a0 : Nat) (a1 : Nat) (x2 : Int32) (R : Int32 → gM → Prop) : Prop := ∀ v1 : Int32, v1 = (fX8_isKey x2) → ((¬ v1 = 0 → (EX3_has N M a1 x2) ∧ ∀ v2 : Int32, v2 = (fX3_has N M a1 x2) → ((¬ v2 = 0 → R (-3) M) ∧ (v2 = 0 → (EX8_lawNumbered M a0 (g_mi M (a0 + 1) 6)) ∧ pX4_isBarred N K M (a0 + 271) (aLaw M a0 (g_mi M (a0 + 1) 6)) (kl M ((aLaw M a0 (g_mi M (a0 + 1) 6)) + 1)) (kl M ((aLaw M a0 (g_mi M (a0 + 1) 6)) + 5)) a1 x2 (fun v3 M1 => ((v3 = 0 → (((g_mi M1 a1 3) < 30 → (EX3_insert N M1 a1 x2) ∧ ∀ M2 : gM, M2 = (mX3_insert N M1 a1 x2) → R (g_mi M2 a1 3) M2) ∧ (¬ (g_mi M1 a1 3) < 30 → R (-5) M1))) ∧ (¬ v3 = 0 → R (-3) M1)))))) ∧ (v1 = 0 → R (-1) M))
set_option maxRecDepth 10000 in
theorem uX8_addTo {N K : Nat} {X : gX} {d mc ms : Nat} {Q : Option Value → gM → Prop} {M : gM} {a0 : Nat} {a1 : Nat} {x2 : Int32} {R : Int32 → gM → Prop} (s0 : Ph M a0) (s1 : St M a1) (H : pX8_addTo N K M a0 a1 x2 R) (hR : ∀ (v : Int32) (M1 : gM), Sm M M1 → R v M1 → Q (some (.int v)) M1) : Cn X (d + 3) mc ms kX8_addTo [.ref a0, .ref a1, .int (x2)] M Q := by
  unfold pX8_addTo at H
  refine g_meth rfl rfl (Nat.le_of_ble_eq_true rfl) rfl ?_
  refine g_iload_n 2 1 dX8_addTo_0 rfl rfl ?_
  refine g_callS (mc1 := 0) (ms1 := 0) (rest := []) (av := [.int (x2)]) kX8_isKey 4 dX8_addTo_1 rfl rfl mbX8_98 smX8_isKey (Nat.le_of_ble_eq_true rfl) (Nat.zero_le _) (Nat.zero_le _) (tX8_isKey  ?_)
  show Go X (d + 3) mc ms kX8_addTo Q 4 [(0, .ref a0), (1, .ref a1), (2, .int (x2))] [.int ((fX8_isKey x2))] M 0 0
  generalize hv1 : (fX8_isKey x2) = v1
  replace H := H v1 hv1.symm
  refine g_if_ne 9 7 dX8_addTo_4 rfl rfl (fun c1 => ?_) (fun c1 => ?_)
  · skip
    replace H := H.1 c1
    refine g_aload_n 1 10 dX8_addTo_9 rfl rfl ?_
    refine g_iload_n 2 11 dX8_addTo_10 rfl rfl ?_
    obtain ⟨b1, H⟩ := H
    refine g_callV (mc1 := 0) (ms1 := 0) (b := a1) (rest := []) (av := [.int (x2)]) kX3_has 14 dX8_addTo_11 rfl rfl mbX8_105 imX3_has seX3_has gcl3.1 s1.1 (Nat.le_of_ble_eq_true rfl) (Nat.zero_le _) (Nat.zero_le _) (tX3_has (N := N) s1 b1 ?_)
    show Go X (d + 3) mc ms kX8_addTo Q 14 [(0, .ref a0), (1, .ref a1), (2, .int (x2))] [.int ((fX3_has N M a1 x2))] M 0 0
    generalize hv2 : (fX3_has N M a1 x2) = v2
    replace H := H v2 hv2.symm
    refine g_if_ne 33 17 dX8_addTo_14 rfl rfl (fun c2 => ?_) (fun c2 => ?_)
    · skip
      replace H := H.1 c2
      refine g_bipush ((-3)) 35 dX8_addTo_33 rfl rfl ?_
      exact g_iret dX8_addTo_35 rfl (Nat.zero_le _) (Nat.zero_le _) (hR _ _ Sm.rf H)
    · skip
      replace H := H.2 c2
      refine g_aload_n 0 18 dX8_addTo_17 rfl rfl ?_
      refine g_getR 21 (a0 + 271) dX8_addTo_18 rfl flX8_45 s0.1 s0.2.2.2.2.2.2.2.2.2.2.2.2.2.1 ?_
      refine g_aload_n 0 22 dX8_addTo_21 rfl rfl ?_
      obtain ⟨b2, H⟩ := H
      refine g_callV (mc1 := 0) (ms1 := 0) (b := a0) (rest := [.ref (a0 + 271)]) (av := []) kX8_lawInForce 25 dX8_addTo_22 rfl rfl mbX8_108 imX8_lawInForce seX8_lawInForce gcl8.1 s0.1 (Nat.le_of_ble_eq_true rfl) (Nat.zero_le _) (Nat.zero_le _) (sX8_lawInForce_0 s0 b2 ?_)
      show Go X (d + 3) mc ms kX8_addTo Q 25 [(0, .ref a0), (1, .ref a1), (2, .int (x2))] [.ref (aLaw M a0 (g_mi M (a0 + 1) 6)), .ref (a0 + 271)] M 0 0
      refine g_aload_n 1 26 dX8_addTo_25 rfl rfl ?_
      refine g_iload_n 2 27 dX8_addTo_26 rfl rfl ?_
      refine g_callV (mc1 := 0) (ms1 := 0) (b := (a0 + 271)) (rest := []) (av := [.ref (aLaw M a0 (g_mi M (a0 + 1) 6)), .ref a1, .int (x2)]) kX4_isBarred 30 dX8_addTo_27 rfl rfl mbX8_112 imX4_isBarred seX4_isBarred gcl4.1 s0.2.2.2.2.2.2.2.2.2.2.2.2.2.2.1.1 (Nat.le_of_ble_eq_true rfl) (Nat.zero_le _) (Nat.zero_le _) (uX4_isBarred (N := N) (K := K) s0.2.2.2.2.2.2.2.2.2.2.2.2.2.2.1 b2.2 s1 H (fun v3 M1 jj H => ?_))
      have j1 : Sm M M1 := jj
      show Go X (d + 3) mc ms kX8_addTo Q 30 [(0, .ref a0), (1, .ref a1), (2, .int (x2))] [.int (v3)] M1 0 0
      refine g_if_eq 36 33 dX8_addTo_30 rfl rfl (fun c3 => ?_) (fun c3 => ?_)
      · skip
        replace H := H.1 c3
        refine g_aload_n 1 37 dX8_addTo_36 rfl rfl ?_
        refine g_getI 40 dX8_addTo_37 rfl flX8_137 (Sm.k j1 s1.1) ?_
        refine g_bipush (30) 42 dX8_addTo_40 rfl rfl ?_
        refine g_icmp_lt 48 45 dX8_addTo_42 rfl rfl (fun c4 => ?_) (fun c4 => ?_)
        · skip
          replace H := H.1 c4
          refine g_aload_n 1 49 dX8_addTo_48 rfl rfl ?_
          refine g_iload_n 2 50 dX8_addTo_49 rfl rfl ?_
          obtain ⟨b3, H⟩ := H
          refine g_callV (mc1 := 0) (ms1 := 0) (b := a1) (rest := []) (av := [.int (x2)]) kX3_insert 53 dX8_addTo_50 rfl rfl mbX8_359 imX3_insert seX3_insert gcl3.1 (Sm.k j1 s1.1) (Nat.le_of_ble_eq_true rfl) (Nat.zero_le _) (Nat.zero_le _) (tX3_insert (N := N) (St.sm j1 s1) b3 ?_)
          show Go X (d + 3) mc ms kX8_addTo Q 53 [(0, .ref a0), (1, .ref a1), (2, .int (x2))] [] (mX3_insert N M1 a1 x2) 0 0
          generalize hM2 : (mX3_insert N M1 a1 x2) = M2
          have j2 : Sm M M2 := by rw [← hM2]; exact (Sm.tr j1 jX3_insert)
          replace H := H M2 hM2.symm
          refine g_aload_n 1 54 dX8_addTo_53 rfl rfl ?_
          refine g_getI 57 dX8_addTo_54 rfl flX8_137 (Sm.k j2 s1.1) ?_
          exact g_iret dX8_addTo_57 rfl (Nat.zero_le _) (Nat.zero_le _) (hR _ _ j2 H)
        · skip
          replace H := H.2 c4
          refine g_bipush ((-5)) 47 dX8_addTo_45 rfl rfl ?_
          exact g_iret dX8_addTo_47 rfl (Nat.zero_le _) (Nat.zero_le _) (hR _ _ j1 H)
      · skip
        replace H := H.2 c3
        refine g_bipush ((-3)) 35 dX8_addTo_33 rfl rfl ?_
        exact g_iret dX8_addTo_35 rfl (Nat.zero_le _) (Nat.zero_le _) (hR _ _ j1 H)
  · skip
    replace H := H.2 c1
    refine g_iconst ((-1)) 8 dX8_addTo_7 rfl rfl ?_
    exact g_iret dX8_addTo_8 rfl (Nat.zero_le _) (Nat.zero_le _) (hR _ _ Sm.rf H)
/-! X8_buildOn -/
def pX8_buildOn_0 (N K : Nat) (kp : Nat → gM → Nat → Nat → Int32 → Prop) (R : Int32 → gM → Prop) (M : gM) (a0 : Nat) (a1 : Nat) : Prop := kp 0 M a0 a1 0
def pX8_buildOn_2 (N K : Nat) (kp : Nat → gM → Nat → Nat → Int32 → Prop) (R : Int32 → gM → Prop) (M : gM) (a0 : Nat) (a1 : Nat) (x2 : Int32) : Prop := ((256 ≤ x2 → R (-3) M) ∧ (¬ 256 ≤ x2 → pX1_leavesNone N K M (a0 + 274) a1 (i_rm ((g_mi M a1 5) + x2) 256) (g_mi M a1 4) (fun v1 M1 => Sl M M1 → ((¬ v1 = 0 → (EX8_lawNumbered M1 a0 (g_mi M1 (a0 + 1) 6)) ∧ pX1_peel N K M1 (a0 + 274) a1 (i_rm ((g_mi M a1 5) + x2) 256) (aLaw M1 a0 (g_mi M1 (a0 + 1) 6)) (kl M1 ((aLaw M1 a0 (g_mi M1 (a0 + 1) 6)) + 1)) (kl M1 ((aLaw M1 a0 (g_mi M1 (a0 + 1) 6)) + 5)) (fun M2 => Sl M1 M2 → ∀ M3 : gM, M3 = (g_wi M2 a1 5 (i_rm ((g_mi M a1 5) + x2) 256)) → pX5_solve N K M3 (a1 + 3) a1 (a0 + 274) (fun M4 => Sl M3 M4 → ∀ M5 : gM, M5 = (g_wi M4 (a1 + 2) 0 (i_min ((g_mi M4 (a1 + 2) 0) + 1) 999)) → R x2 M5))) ∧ (v1 = 0 → kp 0 M1 a0 a1 (x2 + 1))))))
def qX8_buildOn (N K : Nat) (R : Int32 → gM → Prop) : Nat → Nat → gM → Nat → Nat → Int32 → Prop
  | 0, _, _, _, _, _ => False
  | n + 1, _, M, a0, a1, x2 => pX8_buildOn_2 N K (qX8_buildOn N K R n) R M a0 a1 x2
def pX8_buildOn (N K : Nat) (M : gM) (a0 : Nat) (a1 : Nat) (R : Int32 → gM → Prop) : Prop := pX8_buildOn_0 N K (qX8_buildOn N K R N) R M a0 a1
def ULX8_buildOn (X : gX) (d mc ms : Nat) (Q : Option Value → gM → Prop) (N K : Nat) (R : Int32 → gM → Prop) (n : Nat) : Prop := (∀ (M : gM) (a0 : Nat) (a1 : Nat) (x2 : Int32), Ph M a0 → St M a1 → qX8_buildOn N K R n 0 M a0 a1 x2 → (∀ (v : Int32) (M1 : gM), Sm M M1 → R v M1 → Q (some (.int v)) M1) → Go X (d + 4) mc ms kX8_buildOn Q 2 [(0, .ref a0), (1, .ref a1), (2, .int (x2))] [] M 0 0)
set_option maxRecDepth 10000 in
theorem ulX8_buildOn {X : gX} {d mc ms : Nat} {Q : Option Value → gM → Prop} {N K : Nat} {R : Int32 → gM → Prop} : ∀ n : Nat, ULX8_buildOn X d mc ms Q N K R n := by
  intro n
  induction n with
  | zero => exact fun _ _ _ _ _ _ h _ => h.elim
  | succ n ih =>
    intro M a0 a1 x2 s0 s1 H hR
    rw [qX8_buildOn] at H
    unfold pX8_buildOn_2 at H
    refine g_iload_n 2 3 dX8_buildOn_2 rfl rfl ?_
    refine g_sipush (256) 6 dX8_buildOn_3 rfl rfl ?_
    refine g_icmp_ge 97 9 dX8_buildOn_6 rfl rfl (fun c1 => ?_) (fun c1 => ?_)
    · skip
      replace H := H.1 c1
      refine g_bipush ((-3)) 99 dX8_buildOn_97 rfl rfl ?_
      exact g_iret dX8_buildOn_99 rfl (Nat.zero_le _) (Nat.zero_le _) (hR _ _ Sm.rf H)
    · skip
      replace H := H.2 c1
      refine g_aload_n 1 10 dX8_buildOn_9 rfl rfl ?_
      refine g_getI 13 dX8_buildOn_10 rfl flX8_116 s1.1 ?_
      refine g_iload_n 2 14 dX8_buildOn_13 rfl rfl ?_
      refine g_iadd 15 dX8_buildOn_14 rfl ?_
      refine g_sipush (256) 18 dX8_buildOn_15 rfl rfl ?_
      refine h_irem 19 dX8_buildOn_18 rfl (by decide) ?_
      refine g_istore_n 20 [(3, .int ((i_rm ((g_mi M a1 5) + x2) 256))), (0, .ref a0), (1, .ref a1), (2, .int (x2))] dX8_buildOn_19 rfl (Nat.le_of_ble_eq_true rfl) rfl ?_
      refine g_aload_n 1 21 dX8_buildOn_20 rfl rfl ?_
      refine g_getR 24 (a0 + 274) dX8_buildOn_21 rfl flX8_54 s0.1 s0.2.2.2.2.2.2.2.2.2.2.2.2.2.2.2.1 ?_
      refine g_aload_n 2 25 dX8_buildOn_24 rfl rfl ?_
      refine g_iload_n 0 26 dX8_buildOn_25 rfl rfl ?_
      refine g_aload_n 2 27 dX8_buildOn_26 rfl rfl ?_
      refine g_getI 30 dX8_buildOn_27 rfl flX8_119 s1.1 ?_
      refine g_callV (mc1 := 0) (ms1 := 0) (b := (a0 + 274)) (rest := []) (av := [.ref a1, .int ((i_rm ((g_mi M a1 5) + x2) 256)), .int ((g_mi M a1 4))]) kX1_leavesNone 33 dX8_buildOn_30 rfl rfl mbX8_246 imX1_leavesNone seX1_leavesNone gcl1.1 s0.2.2.2.2.2.2.2.2.2.2.2.2.2.2.2.2.1.1 (Nat.le_of_ble_eq_true rfl) (Nat.zero_le _) (Nat.zero_le _) (uX1_leavesNone (N := N) (K := K) s0.2.2.2.2.2.2.2.2.2.2.2.2.2.2.2.2.1 s1 H (fun v1 M1 jj H => ?_))
      replace H := H (Sm.l jj)
      have j1 : Sm M M1 := jj
      show Go X (d + 4) mc ms kX8_buildOn Q 33 [(3, .int ((i_rm ((g_mi M a1 5) + x2) 256))), (0, .ref a0), (1, .ref a1), (2, .int (x2))] [.int (v1)] M1 0 0
      refine g_if_ne 39 36 dX8_buildOn_33 rfl rfl (fun c2 => ?_) (fun c2 => ?_)
      · skip
        replace H := H.1 c2
        refine g_aload_n 1 40 dX8_buildOn_39 rfl rfl ?_
        refine g_getR 43 (a0 + 274) dX8_buildOn_40 rfl flX8_54 (Sm.k j1 s0.1) (Sm.r j1 s0.2.2.2.2.2.2.2.2.2.2.2.2.2.2.2.1) ?_
        refine g_aload_n 2 44 dX8_buildOn_43 rfl rfl ?_
        refine g_iload_n 0 45 dX8_buildOn_44 rfl rfl ?_
        refine g_aload_n 1 46 dX8_buildOn_45 rfl rfl ?_
        obtain ⟨b1, H⟩ := H
        refine g_callV (mc1 := 0) (ms1 := 0) (b := a0) (rest := [.int ((i_rm ((g_mi M a1 5) + x2) 256)), .ref a1, .ref (a0 + 274)]) (av := []) kX8_lawInForce 49 dX8_buildOn_46 rfl rfl mbX8_108 imX8_lawInForce seX8_lawInForce gcl8.1 (Sm.k j1 s0.1) (Nat.le_of_ble_eq_true rfl) (Nat.zero_le _) (Nat.zero_le _) (sX8_lawInForce_0 (Ph.sm j1 s0) b1 ?_)
        show Go X (d + 4) mc ms kX8_buildOn Q 49 [(3, .int ((i_rm ((g_mi M a1 5) + x2) 256))), (0, .ref a0), (1, .ref a1), (2, .int (x2))] [.ref (aLaw M1 a0 (g_mi M1 (a0 + 1) 6)), .int ((i_rm ((g_mi M a1 5) + x2) 256)), .ref a1, .ref (a0 + 274)] M1 0 0
        refine g_callV (mc1 := 0) (ms1 := 0) (b := (a0 + 274)) (rest := []) (av := [.ref a1, .int ((i_rm ((g_mi M a1 5) + x2) 256)), .ref (aLaw M1 a0 (g_mi M1 (a0 + 1) 6))]) kX1_peel 52 dX8_buildOn_49 rfl rfl mbX8_233 imX1_peel seX1_peel gcl1.1 (Sm.k j1 s0.2.2.2.2.2.2.2.2.2.2.2.2.2.2.2.2.1.1) (Nat.le_of_ble_eq_true rfl) (Nat.zero_le _) (Nat.zero_le _) (uX1_peel (N := N) (K := K) (Pe.sm j1 s0.2.2.2.2.2.2.2.2.2.2.2.2.2.2.2.2.1) (St.sm j1 s1) (Tx.sm j1 (Tx.sm (Sm.sy j1) b1.2)) H (fun M2 jj H => ?_))
        replace H := H (Sm.l jj)
        have j2 : Sm M M2 := Sm.tr j1 jj
        show Go X (d + 4) mc ms kX8_buildOn Q 52 [(3, .int ((i_rm ((g_mi M a1 5) + x2) 256))), (0, .ref a0), (1, .ref a1), (2, .int (x2))] [] M2 0 0
        refine g_aload_n 2 53 dX8_buildOn_52 rfl rfl ?_
        refine g_iload_n 0 54 dX8_buildOn_53 rfl rfl ?_
        refine g_putI 57 dX8_buildOn_54 rfl flX8_116 (Sm.k j2 s1.1) ?_
        generalize hM3 : (g_wi M2 a1 5 (i_rm ((g_mi M a1 5) + x2) 256)) = M3
        have j3 : Sm M M3 := by rw [← hM3]; exact (Sm.wi j2)
        replace H := H M3 hM3.symm
        refine g_aload_n 2 58 dX8_buildOn_57 rfl rfl ?_
        refine g_getR 61 (a1 + 3) dX8_buildOn_58 rfl flX8_250 (Sm.k j3 s1.1) (Sm.r j3 s1.2.2.2.2.2.1) ?_
        refine g_aload_n 2 62 dX8_buildOn_61 rfl rfl ?_
        refine g_aload_n 1 63 dX8_buildOn_62 rfl rfl ?_
        refine g_getR 66 (a0 + 274) dX8_buildOn_63 rfl flX8_54 (Sm.k j3 s0.1) (Sm.r j3 s0.2.2.2.2.2.2.2.2.2.2.2.2.2.2.2.1) ?_
        refine g_callV (mc1 := 0) (ms1 := 0) (b := (a1 + 3)) (rest := []) (av := [.ref a1, .ref (a0 + 274)]) kX5_solve 69 dX8_buildOn_66 rfl rfl mbX8_365 imX5_solve seX5_solve gcl5.1 (Sm.k j3 s1.2.2.2.2.2.2.1) (Nat.le_of_ble_eq_true rfl) (Nat.zero_le _) (Nat.zero_le _) (uX5_solve (N := N) (K := K) (Tb.sm j3 s1.2.2.2.2.2.2) (St.sm j3 s1) (Pe.sm j3 s0.2.2.2.2.2.2.2.2.2.2.2.2.2.2.2.2.1) H (fun M4 jj H => ?_))
        replace H := H (Sm.l jj)
        have j4 : Sm M M4 := Sm.tr j3 jj
        show Go X (d + 4) mc ms kX8_buildOn Q 69 [(3, .int ((i_rm ((g_mi M a1 5) + x2) 256))), (0, .ref a0), (1, .ref a1), (2, .int (x2))] [] M4 0 0
        refine g_aload_n 2 70 dX8_buildOn_69 rfl rfl ?_
        refine g_getR 73 (a1 + 2) dX8_buildOn_70 rfl flX8_149 (Sm.k j4 s1.1) (Sm.r j4 s1.2.2.2.1) ?_
        refine g_iconst (0) 74 dX8_buildOn_73 rfl rfl ?_
        refine g_aload_n 2 75 dX8_buildOn_74 rfl rfl ?_
        refine g_getR 78 (a1 + 2) dX8_buildOn_75 rfl flX8_149 (Sm.k j4 s1.1) (Sm.r j4 s1.2.2.2.1) ?_
        refine g_iconst (0) 79 dX8_buildOn_78 rfl rfl ?_
        refine h_iaload 80 0 dX8_buildOn_79 rfl rfl (Sm.k j4 s1.2.2.2.2.1) (vp_lit rfl) ?_
        refine g_iconst (1) 81 dX8_buildOn_80 rfl rfl ?_
        refine g_iadd 82 dX8_buildOn_81 rfl ?_
        refine g_sipush (999) 85 dX8_buildOn_82 rfl rfl ?_
        refine h_min 88 dX8_buildOn_85 rfl mbX8_369 smJ9_min_7cf53 (Nat.le_of_ble_eq_true rfl) (Nat.zero_le _) (Nat.zero_le _) ?_
        refine h_iastore 89 0 dX8_buildOn_88 rfl rfl (Sm.k j4 s1.2.2.2.2.1) (vp_lit rfl) ?_
        generalize hM5 : (g_wi M4 (a1 + 2) 0 (i_min ((g_mi M4 (a1 + 2) 0) + 1) 999)) = M5
        have j5 : Sm M M5 := by rw [← hM5]; exact (Sm.wi j4)
        replace H := H M5 hM5.symm
        refine g_iload_n 3 90 dX8_buildOn_89 rfl rfl ?_
        exact g_iret dX8_buildOn_90 rfl (Nat.zero_le _) (Nat.zero_le _) (hR _ _ j5 H)
      · skip
        replace H := H.2 c2
        refine g_goto 91 dX8_buildOn_36 rfl ?_
        refine g_iinc _ 3 94 [(2, .int ((x2 + 1))), (3, .int ((i_rm ((g_mi M a1 5) + x2) 256))), (0, .ref a0), (1, .ref a1)] dX8_buildOn_91 rfl rfl rfl (Nat.le_of_ble_eq_true rfl) rfl ?_
        refine g_goto 2 dX8_buildOn_94 rfl ?_
        exact g_sub [2, 3, 0] _ rfl (ih M1 a0 a1 (x2 + 1) (Ph.sm j1 s0) (St.sm j1 s1) H (fun v M1 j r => hR v M1 (Sm.tr j1 j) r))
set_option maxRecDepth 10000 in
theorem uX8_buildOn {N K : Nat} {X : gX} {d mc ms : Nat} {Q : Option Value → gM → Prop} {M : gM} {a0 : Nat} {a1 : Nat} {R : Int32 → gM → Prop} (s0 : Ph M a0) (s1 : St M a1) (H : pX8_buildOn N K M a0 a1 R) (hR : ∀ (v : Int32) (M1 : gM), Sm M M1 → R v M1 → Q (some (.int v)) M1) : Cn X (d + 4) mc ms kX8_buildOn [.ref a0, .ref a1] M Q := by
  have ih := ulX8_buildOn (X := X) (d := d) (mc := mc) (ms := ms) (Q := Q) (N := N) (K := K) (R := R) N
  unfold pX8_buildOn pX8_buildOn_0 at H
  refine g_meth rfl rfl (Nat.le_of_ble_eq_true rfl) rfl ?_
  refine g_iconst (0) 1 dX8_buildOn_0 rfl rfl ?_
  refine g_istore_n 2 [(2, .int (0)), (0, .ref a0), (1, .ref a1)] dX8_buildOn_1 rfl (Nat.le_of_ble_eq_true rfl) rfl ?_
  exact g_sub [1, 2, 0] _ rfl (ih M a0 a1 0 s0 s1 H (fun v M1 j r => hR v M1 j r))
/-! X2_read -/
def pX2_read_0 (N K : Nat) (kp : Nat → gM → Nat → Int32 → Prop) (R : Int32 → gM → Prop) (M : gM) (a0 : Nat) (x1 : Int32) : Prop := pX2_splitIntoTokens N K M a0 (fun M1 => ∀ M2 : gM, M2 = (g_wi M1 a0 5 0) → ∀ M3 : gM, M3 = (g_wi M2 a0 6 (-1)) → ∀ M4 : gM, M4 = (g_wi M3 a0 10 0) → ∀ M5 : gM, M5 = (g_wi M4 a0 11 0) → ∀ M6 : gM, M6 = (g_wi M5 a0 4 0) → (x1 = 0 ∨ x1 = 1) ∧ ∀ M7 : gM, M7 = (g_wi M6 a0 12 x1) → pX6_clear N K M7 (a0 + 2) 12 460 (fun M8 => kp 0 M8 a0 0))
def pX2_read_43 (N K : Nat) (kp : Nat → gM → Nat → Int32 → Prop) (R : Int32 → gM → Prop) (M : gM) (a0 : Nat) (x2 : Int32) : Prop := ((12 ≤ x2 → pX2_fail N K M a0 (fun v1 M1 => (v1 = 0 ∨ v1 = 1) ∧ R v1 M1)) ∧ (¬ 12 ≤ x2 → pX2_readClause N K M a0 x2 (fun v2 M2 => ((¬ v2 = 0 → (vp_in ((g_mi M2 a0 10)) 401) ∧ ((¬ (g_mi M2 (a0 + 11) ((g_mi M2 a0 10)).toNatClampNeg) = 24 → pX2_passMark N K M2 a0 59 (fun v3 M3 => ((¬ v3 = 0 → kp 0 M3 a0 (x2 + 1)) ∧ (v3 = 0 → R 0 M3)))) ∧ ((g_mi M2 (a0 + 11) ((g_mi M2 a0 10)).toNatClampNeg) = 24 → R 1 M2))) ∧ (v2 = 0 → R 0 M2)))))
def qX2_read (N K : Nat) (R : Int32 → gM → Prop) : Nat → Nat → gM → Nat → Int32 → Prop
  | 0, _, _, _, _ => False
  | n + 1, _, M, a0, x2 => pX2_read_43 N K (qX2_read N K R n) R M a0 x2
def pX2_read (N K : Nat) (M : gM) (a0 : Nat) (x1 : Int32) (R : Int32 → gM → Prop) : Prop := pX2_read_0 N K (qX2_read N K R N) R M a0 x1
def ULX2_read (X : gX) (d mc ms : Nat) (Q : Option Value → gM → Prop) (N K : Nat) (R : Int32 → gM → Prop) (n : Nat) : Prop := (∀ (M : gM) (a0 : Nat) (x2 : Int32), Re M a0 → qX2_read N K R n 0 M a0 x2 → (∀ (v : Int32) (M1 : gM), Sm M M1 → R v M1 → Q (some (.int v)) M1) → Go X (d + K + 6) mc ms kX2_read Q 43 [(0, .ref a0), (2, .int (x2))] [] M 0 0)
set_option maxRecDepth 10000 in
theorem ulX2_read {X : gX} {d mc ms : Nat} {Q : Option Value → gM → Prop} {N K : Nat} {R : Int32 → gM → Prop} : ∀ n : Nat, ULX2_read X d mc ms Q N K R n := by
  intro n
  induction n with
  | zero => exact fun _ _ _ _ h _ => h.elim
  | succ n ih =>
    intro M a0 x2 s0 H hR
    rw [qX2_read] at H
    unfold pX2_read_43 at H
    refine g_iload_n 1 44 dX2_read_43 rfl rfl ?_
    refine g_bipush (12) 46 dX2_read_44 rfl rfl ?_
    refine g_icmp_ge 92 49 dX2_read_46 rfl rfl (fun c1 => ?_) (fun c1 => ?_)
    · skip
      replace H := H.1 c1
      refine g_aload_n 0 93 dX2_read_92 rfl rfl ?_
      refine g_callV (mc1 := 0) (ms1 := 0) (b := a0) (rest := []) (av := []) kX2_fail 96 dX2_read_93 rfl rfl mbX2_74 imX2_fail seX2_fail gcl2.1 s0.1 (Nat.le_of_ble_eq_true rfl) (Nat.zero_le _) (Nat.zero_le _) (uX2_fail (N := N) (K := K) s0 H (fun v1 M1 jj H => ?_))
      have j1 : Sm M M1 := jj
      show Go X (d + K + 6) mc ms kX2_read Q 96 [(0, .ref a0), (2, .int (x2))] [.int (v1)] M1 0 0
      obtain ⟨b1, H⟩ := H
      exact g_zret dX2_read_96 rfl b1 (Nat.zero_le _) (Nat.zero_le _) (hR _ _ j1 H)
    · skip
      replace H := H.2 c1
      refine g_aload_n 0 50 dX2_read_49 rfl rfl ?_
      refine g_iload_n 1 51 dX2_read_50 rfl rfl ?_
      refine g_callV (mc1 := 0) (ms1 := 0) (b := a0) (rest := []) (av := [.int (x2)]) kX2_readClause 54 dX2_read_51 rfl rfl mbX2_66 imX2_readClause seX2_readClause gcl2.1 s0.1 (Nat.le_of_ble_eq_true rfl) (Nat.zero_le _) (Nat.zero_le _) (Cn.cd (show d + 1 + K + 4 = d + K + 5 by omega) (uX2_readClause (d := d + 1) (N := N) (K := K) s0 H (fun v2 M2 jj H => ?_)))
      have j2 : Sm M M2 := jj
      show Go X (d + K + 6) mc ms kX2_read Q 54 [(0, .ref a0), (2, .int (x2))] [.int (v2)] M2 0 0
      refine g_if_ne 59 57 dX2_read_54 rfl rfl (fun c2 => ?_) (fun c2 => ?_)
      · skip
        replace H := H.1 c2
        refine g_aload_n 0 60 dX2_read_59 rfl rfl ?_
        refine g_getR 63 (a0 + 11) dX2_read_60 rfl flX2_35 (Sm.k j2 s0.1) (Sm.r j2 s0.2.2.2.2.2.2.2.2.2.1) ?_
        refine g_aload_n 0 64 dX2_read_63 rfl rfl ?_
        refine g_getI 67 dX2_read_64 rfl flX2_50 (Sm.k j2 s0.1) ?_
        obtain ⟨b2, H⟩ := H
        refine h_iaload 68 ((g_mi M2 a0 10)).toNatClampNeg dX2_read_67 rfl rfl (Sm.k j2 s0.2.2.2.2.2.2.2.2.2.2.1) b2 ?_
        refine g_bipush (24) 70 dX2_read_68 rfl rfl ?_
        refine g_icmp_ne 75 73 dX2_read_70 rfl rfl (fun c3 => ?_) (fun c3 => ?_)
        · skip
          replace H := H.1 c3
          refine g_aload_n 0 76 dX2_read_75 rfl rfl ?_
          refine g_bipush (59) 78 dX2_read_76 rfl rfl ?_
          refine g_callV (mc1 := 0) (ms1 := 0) (b := a0) (rest := []) (av := [.int (59)]) kX2_passMark 81 dX2_read_78 rfl rfl mbX2_70 imX2_passMark seX2_passMark gcl2.1 (Sm.k j2 s0.1) (Nat.le_of_ble_eq_true rfl) (Nat.zero_le _) (Nat.zero_le _) (uX2_passMark (N := N) (K := K) (Re.sm j2 s0) H (fun v3 M3 jj H => ?_))
          have j3 : Sm M M3 := Sm.tr j2 jj
          show Go X (d + K + 6) mc ms kX2_read Q 81 [(0, .ref a0), (2, .int (x2))] [.int (v3)] M3 0 0
          refine g_if_ne 86 84 dX2_read_81 rfl rfl (fun c4 => ?_) (fun c4 => ?_)
          · skip
            replace H := H.1 c4
            refine g_iinc _ 1 89 [(2, .int ((x2 + 1))), (0, .ref a0)] dX2_read_86 rfl rfl rfl (Nat.le_of_ble_eq_true rfl) rfl ?_
            refine g_goto 43 dX2_read_89 rfl ?_
            exact g_sub [1, 0] _ rfl (ih M3 a0 (x2 + 1) (Re.sm j3 s0) H (fun v M1 j r => hR v M1 (Sm.tr j3 j) r))
          · skip
            replace H := H.2 c4
            refine g_iconst (0) 85 dX2_read_84 rfl rfl ?_
            exact g_zret dX2_read_85 rfl (by decide) (Nat.zero_le _) (Nat.zero_le _) (hR _ _ j3 H)
        · skip
          replace H := H.2 c3
          refine g_iconst (1) 74 dX2_read_73 rfl rfl ?_
          exact g_zret dX2_read_74 rfl (by decide) (Nat.zero_le _) (Nat.zero_le _) (hR _ _ j2 H)
      · skip
        replace H := H.2 c2
        refine g_iconst (0) 58 dX2_read_57 rfl rfl ?_
        exact g_zret dX2_read_58 rfl (by decide) (Nat.zero_le _) (Nat.zero_le _) (hR _ _ j2 H)
set_option maxRecDepth 10000 in
theorem uX2_read {N K : Nat} {X : gX} {d mc ms : Nat} {Q : Option Value → gM → Prop} {M : gM} {a0 : Nat} {x1 : Int32} {R : Int32 → gM → Prop} (s0 : Re M a0) (H : pX2_read N K M a0 x1 R) (hR : ∀ (v : Int32) (M1 : gM), Sm M M1 → R v M1 → Q (some (.int v)) M1) : Cn X (d + K + 6) mc ms kX2_read [.ref a0, .int (x1)] M Q := by
  have ih := ulX2_read (X := X) (d := d) (mc := mc) (ms := ms) (Q := Q) (N := N) (K := K) (R := R) N
  unfold pX2_read pX2_read_0 at H
  refine g_meth rfl rfl (Nat.le_of_ble_eq_true rfl) rfl ?_
  refine g_aload_n 0 1 dX2_read_0 rfl rfl ?_
  refine g_callV (mc1 := 0) (ms1 := 0) (b := a0) (rest := []) (av := []) kX2_splitIntoTokens 4 dX2_read_1 rfl rfl mbX2_47 imX2_splitIntoTokens seX2_splitIntoTokens gcl2.1 s0.1 (Nat.le_of_ble_eq_true rfl) (Nat.zero_le _) (Nat.zero_le _) (uX2_splitIntoTokens (N := N) (K := K) s0 H (fun M1 jj H => ?_))
  have j1 : Sm M M1 := jj
  show Go X (d + K + 6) mc ms kX2_read Q 4 [(0, .ref a0), (1, .int (x1))] [] M1 0 0
  refine g_aload_n 0 5 dX2_read_4 rfl rfl ?_
  refine g_iconst (0) 6 dX2_read_5 rfl rfl ?_
  refine g_putI 9 dX2_read_6 rfl flX2_44 (Sm.k j1 s0.1) ?_
  generalize hM2 : (g_wi M1 a0 5 0) = M2
  have j2 : Sm M M2 := by rw [← hM2]; exact (Sm.wi j1)
  replace H := H M2 hM2.symm
  refine g_aload_n 0 10 dX2_read_9 rfl rfl ?_
  refine g_iconst ((-1)) 11 dX2_read_10 rfl rfl ?_
  refine g_putI 14 dX2_read_11 rfl flX2_31 (Sm.k j2 s0.1) ?_
  generalize hM3 : (g_wi M2 a0 6 (-1)) = M3
  have j3 : Sm M M3 := by rw [← hM3]; exact (Sm.wi j2)
  replace H := H M3 hM3.symm
  refine g_aload_n 0 15 dX2_read_14 rfl rfl ?_
  refine g_iconst (0) 16 dX2_read_15 rfl rfl ?_
  refine g_putI 19 dX2_read_16 rfl flX2_50 (Sm.k j3 s0.1) ?_
  generalize hM4 : (g_wi M3 a0 10 0) = M4
  have j4 : Sm M M4 := by rw [← hM4]; exact (Sm.wi j3)
  replace H := H M4 hM4.symm
  refine g_aload_n 0 20 dX2_read_19 rfl rfl ?_
  refine g_iconst (0) 21 dX2_read_20 rfl rfl ?_
  refine g_putI 24 dX2_read_21 rfl flX2_53 (Sm.k j4 s0.1) ?_
  generalize hM5 : (g_wi M4 a0 11 0) = M5
  have j5 : Sm M M5 := by rw [← hM5]; exact (Sm.wi j4)
  replace H := H M5 hM5.symm
  refine g_aload_n 0 25 dX2_read_24 rfl rfl ?_
  refine g_iconst (0) 26 dX2_read_25 rfl rfl ?_
  refine g_putI 29 dX2_read_26 rfl flX2_56 (Sm.k j5 s0.1) ?_
  generalize hM6 : (g_wi M5 a0 4 0) = M6
  have j6 : Sm M M6 := by rw [← hM6]; exact (Sm.wi j5)
  replace H := H M6 hM6.symm
  refine g_aload_n 0 30 dX2_read_29 rfl rfl ?_
  refine g_iload_n 1 31 dX2_read_30 rfl rfl ?_
  obtain ⟨b1, H⟩ := H
  refine g_putZ 34 dX2_read_31 rfl flX2_59 (Sm.k j6 s0.1) b1 ?_
  generalize hM7 : (g_wi M6 a0 12 x1) = M7
  have j7 : Sm M M7 := by rw [← hM7]; exact (Sm.wi j6)
  replace H := H M7 hM7.symm
  refine g_aload_n 0 35 dX2_read_34 rfl rfl ?_
  refine g_getR 38 (a0 + 2) dX2_read_35 rfl flX2_20 (Sm.k j7 s0.1) (Sm.r j7 s0.2.2.2.1) ?_
  refine g_callV (mc1 := 0) (ms1 := 0) (b := (a0 + 2)) (rest := []) (av := []) kX6_clear 41 dX2_read_38 rfl rfl mbX2_63 imX6_clear seX6_clear gcl6.1 (Sm.k j7 s0.2.2.2.2.1.1) (Nat.le_of_ble_eq_true rfl) (Nat.zero_le _) (Nat.zero_le _) (uX6_clear (N := N) (K := K) (Tx.sm j7 s0.2.2.2.2.1) H (fun M8 jj H => ?_))
  have j8 : Sm M M8 := Sm.tr j7 jj
  show Go X (d + K + 6) mc ms kX2_read Q 41 [(0, .ref a0), (1, .int (x1))] [] M8 0 0
  refine g_iconst (0) 42 dX2_read_41 rfl rfl ?_
  refine g_istore_n 43 [(2, .int (0)), (0, .ref a0), (1, .int (x1))] dX2_read_42 rfl (Nat.le_of_ble_eq_true rfl) rfl ?_
  exact g_sub [1, 0] _ rfl (ih M8 a0 0 (Re.sm j8 s0) H (fun v M1 j r => hR v M1 (Sm.tr j8 j) r))
/-! X8_row -/
def pX8_row_0 (N K : Nat) (kp : Nat → gM → Nat → Int32 → Int32 → Int32 → Prop) (R : Int32 → gM → Prop) (M : gM) (a0 : Nat) : Prop := ((¬ (g_mi M (a0 + 282) 5) = 0 → ∀ M1 : gM, M1 = (g_wi M a0 15 0) → kp 0 M1 a0 (g_mi M (a0 + 282) 5) 0 0) ∧ ((g_mi M (a0 + 282) 5) = 0 → pX8_refuse N K M a0 (-6) (fun v1 M2 => Sl M M2 → R v1 M2)))
def pX8_row_28 (N K : Nat) (kp : Nat → gM → Nat → Int32 → Int32 → Int32 → Prop) (R : Int32 → gM → Prop) (M : gM) (a0 : Nat) (x1 : Int32) (x2 : Int32) (x3 : Int32) : Prop := ((x1 ≤ x3 → ∀ M1 : gM, M1 = (g_wi M (a0 + 282) 5 0) → pX0_clear N K M1 (a0 + 13) (fun M2 => Sl M1 M2 → pX8_accept N K M2 a0 x2 (fun v1 M3 => Sl M2 M3 → R v1 M3))) ∧ (¬ x1 ≤ x3 → ((x1 ≤ (x3 + 1) → ∀ M4 : gM, M4 = (g_wi M a0 15 ((g_mi M a0 15) + 1)) → kp 0 M4 a0 x1 x2 (x3 + 2)) ∧ (¬ x1 ≤ (x3 + 1) → (vp_in (x3) 400) ∧ (vp_in ((x3 + 1)) 400) ∧ pX8_addTo N K M a0 ((a0 + 1) + 1) (((g_mi M ((a0 + 282) + 1) (x3).toNatClampNeg) * 4) + (g_mi M ((a0 + 282) + 1) ((x3 + 1)).toNatClampNeg)) (fun v2 M5 => Sl M M5 → ((v2 < 0 → ∀ M6 : gM, M6 = (g_wi M5 a0 15 ((g_mi M5 a0 15) + 1)) → kp 0 M6 a0 x1 x2 (x3 + 2)) ∧ (¬ v2 < 0 → kp 0 M5 a0 x1 (x2 + 1) (x3 + 2))))))))
def qX8_row (N K : Nat) (R : Int32 → gM → Prop) : Nat → Nat → gM → Nat → Int32 → Int32 → Int32 → Prop
  | 0, _, _, _, _, _, _ => False
  | n + 1, _, M, a0, x1, x2, x3 => pX8_row_28 N K (qX8_row N K R n) R M a0 x1 x2 x3
def pX8_row (N K : Nat) (M : gM) (a0 : Nat) (R : Int32 → gM → Prop) : Prop := pX8_row_0 N K (qX8_row N K R N) R M a0
def ULX8_row (X : gX) (d mc ms : Nat) (Q : Option Value → gM → Prop) (N K : Nat) (R : Int32 → gM → Prop) (n : Nat) : Prop := (∀ (M : gM) (a0 : Nat) (x1 : Int32) (x2 : Int32) (x3 : Int32), Ph M a0 → qX8_row N K R n 0 M a0 x1 x2 x3 → (∀ (v : Int32) (M1 : gM), Sm M M1 → R v M1 → Q (some (.int v)) M1) → Go X (d + 4) mc ms kX8_row Q 28 [(0, .ref a0), (1, .int (x1)), (2, .int (x2)), (3, .int (x3))] [] M 0 0)
set_option maxRecDepth 10000 in
theorem ulX8_row {X : gX} {d mc ms : Nat} {Q : Option Value → gM → Prop} {N K : Nat} {R : Int32 → gM → Prop} : ∀ n : Nat, ULX8_row X d mc ms Q N K R n := by
  intro n
  induction n with
  | zero => exact fun _ _ _ _ _ _ h _ => h.elim
  | succ n ih =>
    intro M a0 x1 x2 x3 s0 H hR
    rw [qX8_row] at H
    unfold pX8_row_28 at H
    refine g_iload_n 3 29 dX8_row_28 rfl rfl ?_
    refine g_iload_n 1 30 dX8_row_29 rfl rfl ?_
    refine g_icmp_ge 111 33 dX8_row_30 rfl rfl (fun c1 => ?_) (fun c1 => ?_)
    · skip
      replace H := H.1 c1
      refine g_aload_n 0 112 dX8_row_111 rfl rfl ?_
      refine g_getR 115 (a0 + 282) dX8_row_112 rfl flX8_61 s0.1 s0.2.2.2.2.2.2.2.2.2.2.2.2.2.2.2.2.2.1 ?_
      refine g_iconst (0) 116 dX8_row_115 rfl rfl ?_
      refine g_putI 119 dX8_row_116 rfl flX8_158 s0.2.2.2.2.2.2.2.2.2.2.2.2.2.2.2.2.2.2.1.1 ?_
      generalize hM1 : (g_wi M (a0 + 282) 5 0) = M1
      have j1 : Sm M M1 := by rw [← hM1]; exact (Sm.wi Sm.rf)
      replace H := H M1 hM1.symm
      refine g_aload_n 0 120 dX8_row_119 rfl rfl ?_
      refine g_getR 123 (a0 + 13) dX8_row_120 rfl flX8_25 (Sm.k j1 s0.1) (Sm.r j1 s0.2.2.2.2.2.1) ?_
      refine g_callV (mc1 := 0) (ms1 := 0) (b := (a0 + 13)) (rest := []) (av := []) kX0_clear 126 dX8_row_123 rfl rfl mbX8_152 imX0_clear seX0_clear gcl0.1 (Sm.k j1 s0.2.2.2.2.2.2.1.1) (Nat.le_of_ble_eq_true rfl) (Nat.zero_le _) (Nat.zero_le _) (uX0_clear (N := N) (K := K) (Hi.sm j1 s0.2.2.2.2.2.2.1) H (fun M2 jj H => ?_))
      replace H := H (Sm.l jj)
      have j2 : Sm M M2 := Sm.tr j1 jj
      show Go X (d + 4) mc ms kX8_row Q 126 [(0, .ref a0), (1, .int (x1)), (2, .int (x2)), (3, .int (x3))] [] M2 0 0
      refine g_aload_n 0 127 dX8_row_126 rfl rfl ?_
      refine g_iload_n 2 128 dX8_row_127 rfl rfl ?_
      refine g_callV (mc1 := 0) (ms1 := 0) (b := a0) (rest := []) (av := [.int (x2)]) kX8_accept 131 dX8_row_128 rfl rfl mbX8_155 imX8_accept seX8_accept gcl8.1 (Sm.k j2 s0.1) (Nat.le_of_ble_eq_true rfl) (Nat.zero_le _) (Nat.zero_le _) (uX8_accept (N := N) (K := K) (Ph.sm j2 s0) H (fun v1 M3 jj H => ?_))
      replace H := H (Sm.l jj)
      have j3 : Sm M M3 := Sm.tr j2 jj
      show Go X (d + 4) mc ms kX8_row Q 131 [(0, .ref a0), (1, .int (x1)), (2, .int (x2)), (3, .int (x3))] [.int (v1)] M3 0 0
      exact g_iret dX8_row_131 rfl (Nat.zero_le _) (Nat.zero_le _) (hR _ _ j3 H)
    · skip
      replace H := H.2 c1
      refine g_iload_n 3 34 dX8_row_33 rfl rfl ?_
      refine g_iconst (1) 35 dX8_row_34 rfl rfl ?_
      refine g_iadd 36 dX8_row_35 rfl ?_
      refine g_iload_n 1 37 dX8_row_36 rfl rfl ?_
      refine g_icmp_ge 44 40 dX8_row_37 rfl rfl (fun c2 => ?_) (fun c2 => ?_)
      · skip
        replace H := H.1 c2
        refine g_iconst (0) 45 dX8_row_44 rfl rfl ?_
        refine g_istore 47 [(4, .int (0)), (0, .ref a0), (1, .int (x1)), (2, .int (x2)), (3, .int (x3))] dX8_row_45 rfl (Nat.le_of_ble_eq_true rfl) rfl ?_
        refine g_iload 0 49 dX8_row_47 rfl rfl ?_
        refine g_if_eq 95 52 dX8_row_49 rfl rfl (fun _ => ?_) (fun q => absurd q (by decide))
        refine g_aload_n 1 96 dX8_row_95 rfl rfl ?_
        refine g_dup 97 dX8_row_96 rfl rfl ?_
        refine g_getI 100 dX8_row_97 rfl flX8_165 s0.1 ?_
        refine g_iconst (1) 101 dX8_row_100 rfl rfl ?_
        refine g_iadd 102 dX8_row_101 rfl ?_
        refine g_putI 105 dX8_row_102 rfl flX8_165 s0.1 ?_
        generalize hM4 : (g_wi M a0 15 ((g_mi M a0 15) + 1)) = M4
        have j4 : Sm M M4 := by rw [← hM4]; exact (Sm.wi Sm.rf)
        replace H := H M4 hM4.symm
        refine g_iinc _ 4 108 [(3, .int ((x3 + 2))), (4, .int (0)), (0, .ref a0), (1, .int (x1)), (2, .int (x2))] dX8_row_105 rfl rfl rfl (Nat.le_of_ble_eq_true rfl) rfl ?_
        refine g_goto 28 dX8_row_108 rfl ?_
        exact g_sub [2, 3, 4, 0] _ rfl (ih M4 a0 x1 x2 (x3 + 2) (Ph.sm j4 s0) H (fun v M1 j r => hR v M1 (Sm.tr j4 j) r))
      · skip
        replace H := H.2 c2
        refine g_iconst (1) 41 dX8_row_40 rfl rfl ?_
        refine g_goto 45 dX8_row_41 rfl ?_
        refine g_istore 47 [(4, .int (1)), (0, .ref a0), (1, .int (x1)), (2, .int (x2)), (3, .int (x3))] dX8_row_45 rfl (Nat.le_of_ble_eq_true rfl) rfl ?_
        refine g_iload 0 49 dX8_row_47 rfl rfl ?_
        refine g_if_eq 95 52 dX8_row_49 rfl rfl (fun q => absurd q (by decide)) (fun _ => ?_)
        refine g_aload_n 1 53 dX8_row_52 rfl rfl ?_
        refine g_aload_n 1 54 dX8_row_53 rfl rfl ?_
        refine g_getR 57 (a0 + 1) dX8_row_54 rfl flX8_14 s0.1 s0.2.1 ?_
        refine g_getR 60 ((a0 + 1) + 1) dX8_row_57 rfl flX8_102 s0.2.2.1.1 s0.2.2.1.2.1 ?_
        refine g_aload_n 1 61 dX8_row_60 rfl rfl ?_
        refine g_getR 64 (a0 + 282) dX8_row_61 rfl flX8_61 s0.1 s0.2.2.2.2.2.2.2.2.2.2.2.2.2.2.2.2.2.1 ?_
        refine g_getR 67 ((a0 + 282) + 1) dX8_row_64 rfl flX8_168 s0.2.2.2.2.2.2.2.2.2.2.2.2.2.2.2.2.2.2.1.1 s0.2.2.2.2.2.2.2.2.2.2.2.2.2.2.2.2.2.2.1.2.1 ?_
        refine g_iload_n 4 68 dX8_row_67 rfl rfl ?_
        obtain ⟨b1, H⟩ := H
        refine h_iaload 69 (x3).toNatClampNeg dX8_row_68 rfl rfl s0.2.2.2.2.2.2.2.2.2.2.2.2.2.2.2.2.2.2.1.2.2.1 b1 ?_
        refine g_iconst (4) 70 dX8_row_69 rfl rfl ?_
        refine g_imul 71 dX8_row_70 rfl ?_
        refine g_aload_n 1 72 dX8_row_71 rfl rfl ?_
        refine g_getR 75 (a0 + 282) dX8_row_72 rfl flX8_61 s0.1 s0.2.2.2.2.2.2.2.2.2.2.2.2.2.2.2.2.2.1 ?_
        refine g_getR 78 ((a0 + 282) + 1) dX8_row_75 rfl flX8_168 s0.2.2.2.2.2.2.2.2.2.2.2.2.2.2.2.2.2.2.1.1 s0.2.2.2.2.2.2.2.2.2.2.2.2.2.2.2.2.2.2.1.2.1 ?_
        refine g_iload_n 4 79 dX8_row_78 rfl rfl ?_
        refine g_iconst (1) 80 dX8_row_79 rfl rfl ?_
        refine g_iadd 81 dX8_row_80 rfl ?_
        obtain ⟨b2, H⟩ := H
        refine h_iaload 82 ((x3 + 1)).toNatClampNeg dX8_row_81 rfl rfl s0.2.2.2.2.2.2.2.2.2.2.2.2.2.2.2.2.2.2.1.2.2.1 b2 ?_
        refine g_iadd 83 dX8_row_82 rfl ?_
        refine g_callV (mc1 := 0) (ms1 := 0) (b := a0) (rest := []) (av := [.ref ((a0 + 1) + 1), .int ((((g_mi M ((a0 + 282) + 1) (x3).toNatClampNeg) * 4) + (g_mi M ((a0 + 282) + 1) ((x3 + 1)).toNatClampNeg)))]) kX8_addTo 86 dX8_row_83 rfl rfl mbX8_171 imX8_addTo seX8_addTo gcl8.1 s0.1 (Nat.le_of_ble_eq_true rfl) (Nat.zero_le _) (Nat.zero_le _) (uX8_addTo (N := N) (K := K) s0 s0.2.2.1.2.2.1 H (fun v2 M5 jj H => ?_))
        replace H := H (Sm.l jj)
        have j5 : Sm M M5 := jj
        show Go X (d + 4) mc ms kX8_row Q 86 [(4, .int (1)), (0, .ref a0), (1, .int (x1)), (2, .int (x2)), (3, .int (x3))] [.int (v2)] M5 0 0
        refine g_if_lt 95 89 dX8_row_86 rfl rfl (fun c3 => ?_) (fun c3 => ?_)
        · skip
          replace H := H.1 c3
          refine g_aload_n 1 96 dX8_row_95 rfl rfl ?_
          refine g_dup 97 dX8_row_96 rfl rfl ?_
          refine g_getI 100 dX8_row_97 rfl flX8_165 (Sm.k j5 s0.1) ?_
          refine g_iconst (1) 101 dX8_row_100 rfl rfl ?_
          refine g_iadd 102 dX8_row_101 rfl ?_
          refine g_putI 105 dX8_row_102 rfl flX8_165 (Sm.k j5 s0.1) ?_
          generalize hM6 : (g_wi M5 a0 15 ((g_mi M5 a0 15) + 1)) = M6
          have j6 : Sm M M6 := by rw [← hM6]; exact (Sm.wi j5)
          replace H := H M6 hM6.symm
          refine g_iinc _ 4 108 [(3, .int ((x3 + 2))), (4, .int (1)), (0, .ref a0), (1, .int (x1)), (2, .int (x2))] dX8_row_105 rfl rfl rfl (Nat.le_of_ble_eq_true rfl) rfl ?_
          refine g_goto 28 dX8_row_108 rfl ?_
          exact g_sub [2, 3, 4, 0] _ rfl (ih M6 a0 x1 x2 (x3 + 2) (Ph.sm j6 s0) H (fun v M1 j r => hR v M1 (Sm.tr j6 j) r))
        · skip
          replace H := H.2 c3
          refine g_iinc _ 3 92 [(2, .int ((x2 + 1))), (4, .int (1)), (0, .ref a0), (1, .int (x1)), (3, .int (x3))] dX8_row_89 rfl rfl rfl (Nat.le_of_ble_eq_true rfl) rfl ?_
          refine g_goto 105 dX8_row_92 rfl ?_
          refine g_iinc _ 4 108 [(3, .int ((x3 + 2))), (2, .int ((x2 + 1))), (4, .int (1)), (0, .ref a0), (1, .int (x1))] dX8_row_105 rfl rfl rfl (Nat.le_of_ble_eq_true rfl) rfl ?_
          refine g_goto 28 dX8_row_108 rfl ?_
          exact g_sub [3, 4, 1, 0] _ rfl (ih M5 a0 x1 (x2 + 1) (x3 + 2) (Ph.sm j5 s0) H (fun v M1 j r => hR v M1 (Sm.tr j5 j) r))
set_option maxRecDepth 10000 in
theorem uX8_row {N K : Nat} {X : gX} {d mc ms : Nat} {Q : Option Value → gM → Prop} {M : gM} {a0 : Nat} {R : Int32 → gM → Prop} (s0 : Ph M a0) (H : pX8_row N K M a0 R) (hR : ∀ (v : Int32) (M1 : gM), Sm M M1 → R v M1 → Q (some (.int v)) M1) : Cn X (d + 4) mc ms kX8_row [.ref a0] M Q := by
  have ih := ulX8_row (X := X) (d := d) (mc := mc) (ms := ms) (Q := Q) (N := N) (K := K) (R := R) N
  unfold pX8_row pX8_row_0 at H
  refine g_meth rfl rfl (Nat.le_of_ble_eq_true rfl) rfl ?_
  refine g_aload_n 0 1 dX8_row_0 rfl rfl ?_
  refine g_getR 4 (a0 + 282) dX8_row_1 rfl flX8_61 s0.1 s0.2.2.2.2.2.2.2.2.2.2.2.2.2.2.2.2.2.1 ?_
  refine g_getI 7 dX8_row_4 rfl flX8_158 s0.2.2.2.2.2.2.2.2.2.2.2.2.2.2.2.2.2.2.1.1 ?_
  refine g_istore_n 8 [(1, .int ((g_mi M (a0 + 282) 5))), (0, .ref a0)] dX8_row_7 rfl (Nat.le_of_ble_eq_true rfl) rfl ?_
  refine g_iload_n 0 9 dX8_row_8 rfl rfl ?_
  refine g_if_ne 19 12 dX8_row_9 rfl rfl (fun c1 => ?_) (fun c1 => ?_)
  · skip
    replace H := H.1 c1
    refine g_iconst (0) 20 dX8_row_19 rfl rfl ?_
    refine g_istore_n 21 [(2, .int (0)), (1, .int ((g_mi M (a0 + 282) 5))), (0, .ref a0)] dX8_row_20 rfl (Nat.le_of_ble_eq_true rfl) rfl ?_
    refine g_aload_n 2 22 dX8_row_21 rfl rfl ?_
    refine g_iconst (0) 23 dX8_row_22 rfl rfl ?_
    refine g_putI 26 dX8_row_23 rfl flX8_165 s0.1 ?_
    generalize hM1 : (g_wi M a0 15 0) = M1
    have j1 : Sm M M1 := by rw [← hM1]; exact (Sm.wi Sm.rf)
    replace H := H M1 hM1.symm
    refine g_iconst (0) 27 dX8_row_26 rfl rfl ?_
    refine g_istore_n 28 [(3, .int (0)), (2, .int (0)), (1, .int ((g_mi M (a0 + 282) 5))), (0, .ref a0)] dX8_row_27 rfl (Nat.le_of_ble_eq_true rfl) rfl ?_
    exact g_sub [3, 2, 1, 0] _ rfl (ih M1 a0 (g_mi M (a0 + 282) 5) 0 0 (Ph.sm j1 s0) H (fun v M1 j r => hR v M1 (Sm.tr j1 j) r))
  · skip
    replace H := H.2 c1
    refine g_aload_n 1 13 dX8_row_12 rfl rfl ?_
    refine g_bipush ((-6)) 15 dX8_row_13 rfl rfl ?_
    refine g_callV (mc1 := 0) (ms1 := 0) (b := a0) (rest := []) (av := [.int ((-6))]) kX8_refuse 18 dX8_row_15 rfl rfl mbX8_146 imX8_refuse seX8_refuse gcl8.1 s0.1 (Nat.le_of_ble_eq_true rfl) (Nat.zero_le _) (Nat.zero_le _) (uX8_refuse (N := N) (K := K) s0 H (fun v1 M2 jj H => ?_))
    replace H := H (Sm.l jj)
    have j2 : Sm M M2 := jj
    show Go X (d + 4) mc ms kX8_row Q 18 [(1, .int ((g_mi M (a0 + 282) 5))), (0, .ref a0)] [.int (v1)] M2 0 0
    exact g_iret dX8_row_18 rfl (Nat.zero_le _) (Nat.zero_le _) (hR _ _ j2 H)
/-! X8_carryOut -/
def pX8_carryOut (N K : Nat) (M : gM) (a0 : Nat) (a1 : Nat) (x2 : Int32) (x3 : Int32) (R : Int32 → gM → Prop) : Prop := ((x2 = 0 → pX8_addTo N K M a0 a1 x3 (fun v1 M1 => Sl M M1 → R v1 M1)) ∧ (¬ x2 = 0 → ((x2 = 1 → (EX8_takeFrom N M a1 x3) ∧ ∀ v2 : Int32, v2 = (fX8_takeFrom N M a1 x3) → ∀ M2 : gM, M2 = (mX8_takeFrom N M a1 x3) → R v2 M2) ∧ (¬ x2 = 1 → ((x2 = 2 → ∀ v3 : Int32, v3 = (fX8_setSide M a1 x3) → ∀ M3 : gM, M3 = (mX8_setSide M a1 x3) → R v3 M3) ∧ (¬ x2 = 2 → ((x2 = 3 → ∀ v4 : Int32, v4 = (fX8_setSeed M a1 x3) → ∀ M4 : gM, M4 = (mX8_setSeed M a1 x3) → R v4 M4) ∧ (¬ x2 = 3 → pX8_buildOn N K M a0 a1 (fun v5 M5 => Sl M M5 → R v5 M5)))))))))
set_option maxRecDepth 10000 in
theorem uX8_carryOut {N K : Nat} {X : gX} {d mc ms : Nat} {Q : Option Value → gM → Prop} {M : gM} {a0 : Nat} {a1 : Nat} {x2 : Int32} {x3 : Int32} {R : Int32 → gM → Prop} (s0 : Ph M a0) (s1 : St M a1) (H : pX8_carryOut N K M a0 a1 x2 x3 R) (hR : ∀ (v : Int32) (M1 : gM), Sm M M1 → R v M1 → Q (some (.int v)) M1) : Cn X (d + 5) mc ms kX8_carryOut [.ref a0, .ref a1, .int (x2), .int (x3)] M Q := by
  unfold pX8_carryOut at H
  refine g_meth rfl rfl (Nat.le_of_ble_eq_true rfl) rfl ?_
  refine g_iload_n 2 1 dX8_carryOut_0 rfl rfl ?_
  by_cases c1 : x2 = 0
  · refine h_tabIn (0) 32 dX8_carryOut_1 c1 (by decide) (by decide) rfl rfl ?_
    replace H := H.1 c1
    refine g_aload_n 0 33 dX8_carryOut_32 rfl rfl ?_
    refine g_aload_n 1 34 dX8_carryOut_33 rfl rfl ?_
    refine g_iload_n 3 35 dX8_carryOut_34 rfl rfl ?_
    refine g_callV (mc1 := 0) (ms1 := 0) (b := a0) (rest := []) (av := [.ref a1, .int (x3)]) kX8_addTo 38 dX8_carryOut_35 rfl rfl mbX8_171 imX8_addTo seX8_addTo gcl8.1 s0.1 (Nat.le_of_ble_eq_true rfl) (Nat.zero_le _) (Nat.zero_le _) (uX8_addTo (N := N) (K := K) s0 s1 H (fun v1 M1 jj H => ?_))
    replace H := H (Sm.l jj)
    have j1 : Sm M M1 := jj
    show Go X (d + 5) mc ms kX8_carryOut Q 38 [(0, .ref a0), (1, .ref a1), (2, .int (x2)), (3, .int (x3))] [.int (v1)] M1 0 0
    exact g_iret dX8_carryOut_38 rfl (Nat.zero_le _) (Nat.zero_le _) (hR _ _ j1 H)
  replace H := H.2 c1
  by_cases c2 : x2 = 1
  · refine h_tabIn (1) 39 dX8_carryOut_1 c2 (by decide) (by decide) rfl rfl ?_
    replace H := H.1 c2
    refine g_aload_n 1 40 dX8_carryOut_39 rfl rfl ?_
    refine g_iload_n 3 41 dX8_carryOut_40 rfl rfl ?_
    obtain ⟨b1, H⟩ := H
    refine g_callS (mc1 := 0) (ms1 := 0) (rest := []) (av := [.ref a1, .int (x3)]) kX8_takeFrom 44 dX8_carryOut_41 rfl rfl mbX8_347 smX8_takeFrom (Nat.le_of_ble_eq_true rfl) (Nat.zero_le _) (Nat.zero_le _) (tX8_takeFrom (N := N) s1 b1 ?_)
    show Go X (d + 5) mc ms kX8_carryOut Q 44 [(0, .ref a0), (1, .ref a1), (2, .int (x2)), (3, .int (x3))] [.int ((fX8_takeFrom N M a1 x3))] (mX8_takeFrom N M a1 x3) 0 0
    generalize hv2 : (fX8_takeFrom N M a1 x3) = v2
    replace H := H v2 hv2.symm
    generalize hM2 : (mX8_takeFrom N M a1 x3) = M2
    have j2 : Sm M M2 := by rw [← hM2]; exact (Sm.tr Sm.rf jX8_takeFrom)
    replace H := H M2 hM2.symm
    exact g_iret dX8_carryOut_44 rfl (Nat.zero_le _) (Nat.zero_le _) (hR _ _ j2 H)
  replace H := H.2 c2
  by_cases c3 : x2 = 2
  · refine h_tabIn (2) 45 dX8_carryOut_1 c3 (by decide) (by decide) rfl rfl ?_
    replace H := H.1 c3
    refine g_aload_n 1 46 dX8_carryOut_45 rfl rfl ?_
    refine g_iload_n 3 47 dX8_carryOut_46 rfl rfl ?_
    refine g_callS (mc1 := 0) (ms1 := 0) (rest := []) (av := [.ref a1, .int (x3)]) kX8_setSide 50 dX8_carryOut_47 rfl rfl mbX8_350 smX8_setSide (Nat.le_of_ble_eq_true rfl) (Nat.zero_le _) (Nat.zero_le _) (tX8_setSide s1 ?_)
    show Go X (d + 5) mc ms kX8_carryOut Q 50 [(0, .ref a0), (1, .ref a1), (2, .int (x2)), (3, .int (x3))] [.int ((fX8_setSide M a1 x3))] (mX8_setSide M a1 x3) 0 0
    generalize hv3 : (fX8_setSide M a1 x3) = v3
    replace H := H v3 hv3.symm
    generalize hM3 : (mX8_setSide M a1 x3) = M3
    have j3 : Sm M M3 := by rw [← hM3]; exact (Sm.tr Sm.rf jX8_setSide)
    replace H := H M3 hM3.symm
    exact g_iret dX8_carryOut_50 rfl (Nat.zero_le _) (Nat.zero_le _) (hR _ _ j3 H)
  replace H := H.2 c3
  by_cases c4 : x2 = 3
  · refine h_tabIn (3) 51 dX8_carryOut_1 c4 (by decide) (by decide) rfl rfl ?_
    replace H := H.1 c4
    refine g_aload_n 1 52 dX8_carryOut_51 rfl rfl ?_
    refine g_iload_n 3 53 dX8_carryOut_52 rfl rfl ?_
    refine g_callS (mc1 := 0) (ms1 := 0) (rest := []) (av := [.ref a1, .int (x3)]) kX8_setSeed 56 dX8_carryOut_53 rfl rfl mbX8_353 smX8_setSeed (Nat.le_of_ble_eq_true rfl) (Nat.zero_le _) (Nat.zero_le _) (tX8_setSeed s1 ?_)
    show Go X (d + 5) mc ms kX8_carryOut Q 56 [(0, .ref a0), (1, .ref a1), (2, .int (x2)), (3, .int (x3))] [.int ((fX8_setSeed M a1 x3))] (mX8_setSeed M a1 x3) 0 0
    generalize hv4 : (fX8_setSeed M a1 x3) = v4
    replace H := H v4 hv4.symm
    generalize hM4 : (mX8_setSeed M a1 x3) = M4
    have j4 : Sm M M4 := by rw [← hM4]; exact (Sm.tr Sm.rf jX8_setSeed)
    replace H := H M4 hM4.symm
    exact g_iret dX8_carryOut_56 rfl (Nat.zero_le _) (Nat.zero_le _) (hR _ _ j4 H)
  replace H := H.2 c4
  have tc1 := i_neT c1
  rw [show ((0 : Int32)).toInt = 0 from rfl] at tc1
  have tc2 := i_neT c2
  rw [show ((1 : Int32)).toInt = 1 from rfl] at tc2
  have tc3 := i_neT c3
  rw [show ((2 : Int32)).toInt = 2 from rfl] at tc3
  have tc4 := i_neT c4
  rw [show ((3 : Int32)).toInt = 3 from rfl] at tc4
  refine g_tableOut 57 dX8_carryOut_1 (by omega) rfl ?_
  refine g_aload_n 0 58 dX8_carryOut_57 rfl rfl ?_
  refine g_aload_n 1 59 dX8_carryOut_58 rfl rfl ?_
  refine g_callV (mc1 := 0) (ms1 := 0) (b := a0) (rest := []) (av := [.ref a1]) kX8_buildOn 62 dX8_carryOut_59 rfl rfl mbX8_356 imX8_buildOn seX8_buildOn gcl8.1 s0.1 (Nat.le_of_ble_eq_true rfl) (Nat.zero_le _) (Nat.zero_le _) (uX8_buildOn (N := N) (K := K) s0 s1 H (fun v5 M5 jj H => ?_))
  replace H := H (Sm.l jj)
  have j5 : Sm M M5 := jj
  show Go X (d + 5) mc ms kX8_carryOut Q 62 [(0, .ref a0), (1, .ref a1), (2, .int (x2)), (3, .int (x3))] [.int (v5)] M5 0 0
  exact g_iret dX8_carryOut_62 rfl (Nat.zero_le _) (Nat.zero_le _) (hR _ _ j5 H)
/-! X8_runOnce -/
def pX8_runOnce (N K : Nat) (M : gM) (a0 : Nat) (a1 : Nat) (n1 : Nat) (m1 : Nat) (x2 : Int32) (x3 : Int32) (x4 : Int32) (R : Int32 → gM → Prop) : Prop := pX8_tellOrders N K M a0 x3 x4 (fun M1 => Sl M M1 → (vp_in (x2) n1) ∧ pX4_valueOf N K M1 (a0 + 271) a1 n1 m1 (g_mi M1 (a1 + 4) (x2).toNatClampNeg) (fun v1 M2 => Sl M1 M2 → ((v1 = 1 → (vp_in (x2) n1) ∧ pX4_valueOf N K M2 (a0 + 271) a1 n1 m1 (g_mi M2 (a1 + 3) (x2).toNatClampNeg) (fun v2 M3 => Sl M2 M3 → ((¬ v2 = (-2147483648) → pX0_draft N K M3 (a0 + 135) ((a0 + 1) + 1) (fun M4 => Sl M3 M4 → (vp_in (x2) n1) ∧ pX8_carryOut N K M4 a0 ((a0 + 1) + 1) (g_mi M4 (a1 + 1) (x2).toNatClampNeg) v2 (fun v3 M5 => Sl M4 M5 → ((v3 < 0 → R v3 M5) ∧ (¬ v3 < 0 → (vp_in (x2) n1) ∧ pX0_keep N K M5 (a0 + 135) (g_mi M5 (a1 + 1) (x2).toNatClampNeg) (fun M6 => Sl M5 M6 → R v3 M6)))))) ∧ (v2 = (-2147483648) → R (-3) M3)))) ∧ (¬ v1 = 1 → R (-2147483648) M2))))
set_option maxRecDepth 10000 in
theorem uX8_runOnce {N K : Nat} {X : gX} {d mc ms : Nat} {Q : Option Value → gM → Prop} {M : gM} {a0 : Nat} {a1 : Nat} {n1 m1 : Nat} {x2 : Int32} {x3 : Int32} {x4 : Int32} {R : Int32 → gM → Prop} (s0 : Ph M a0) (s1 : Tx M a1 n1 m1) (H : pX8_runOnce N K M a0 a1 n1 m1 x2 x3 x4 R) (hR : ∀ (v : Int32) (M1 : gM), Sm M M1 → R v M1 → Q (some (.int v)) M1) : Cn X (d + 6) mc ms kX8_runOnce [.ref a0, .ref a1, .int (x2), .int (x3), .int (x4)] M Q := by
  unfold pX8_runOnce at H
  refine g_meth rfl rfl (Nat.le_of_ble_eq_true rfl) rfl ?_
  refine g_aload_n 0 1 dX8_runOnce_0 rfl rfl ?_
  refine g_getR 4 (a0 + 1) dX8_runOnce_1 rfl flX8_14 s0.1 s0.2.1 ?_
  refine g_getR 7 ((a0 + 1) + 1) dX8_runOnce_4 rfl flX8_102 s0.2.2.1.1 s0.2.2.1.2.1 ?_
  refine g_astore 9 [(5, .ref ((a0 + 1) + 1)), (0, .ref a0), (1, .ref a1), (2, .int (x2)), (3, .int (x3)), (4, .int (x4))] dX8_runOnce_7 rfl (Nat.le_of_ble_eq_true rfl) rfl ?_
  refine g_aload_n 1 10 dX8_runOnce_9 rfl rfl ?_
  refine g_iload_n 4 11 dX8_runOnce_10 rfl rfl ?_
  refine g_iload 5 13 dX8_runOnce_11 rfl rfl ?_
  refine g_callV (mc1 := 0) (ms1 := 0) (b := a0) (rest := []) (av := [.int (x3), .int (x4)]) kX8_tellOrders 16 dX8_runOnce_13 rfl rfl mbX8_372 imX8_tellOrders seX8_tellOrders gcl8.1 s0.1 (Nat.le_of_ble_eq_true rfl) (Nat.zero_le _) (Nat.zero_le _) (uX8_tellOrders (N := N) (K := K) s0 H (fun M1 jj H => ?_))
  replace H := H (Sm.l jj)
  have j1 : Sm M M1 := jj
  show Go X (d + 6) mc ms kX8_runOnce Q 16 [(5, .ref ((a0 + 1) + 1)), (0, .ref a0), (1, .ref a1), (2, .int (x2)), (3, .int (x3)), (4, .int (x4))] [] M1 0 0
  refine g_aload_n 1 17 dX8_runOnce_16 rfl rfl ?_
  refine g_getR 20 (a0 + 271) dX8_runOnce_17 rfl flX8_45 (Sm.k j1 s0.1) (Sm.r j1 s0.2.2.2.2.2.2.2.2.2.2.2.2.2.1) ?_
  refine g_aload_n 2 21 dX8_runOnce_20 rfl rfl ?_
  refine g_aload_n 2 22 dX8_runOnce_21 rfl rfl ?_
  refine g_getR 25 (a1 + 4) dX8_runOnce_22 rfl flX8_375 (Sm.k j1 s1.1) (Sm.r j1 s1.2.2.2.2.2.2.2.1) ?_
  refine g_iload_n 3 26 dX8_runOnce_25 rfl rfl ?_
  obtain ⟨b1, H⟩ := H
  refine h_iaload 27 (x2).toNatClampNeg dX8_runOnce_26 rfl rfl (Sm.k j1 s1.2.2.2.2.2.2.2.2.1) b1 ?_
  refine g_callV (mc1 := 0) (ms1 := 0) (b := (a0 + 271)) (rest := []) (av := [.ref a1, .int ((g_mi M1 (a1 + 4) (x2).toNatClampNeg))]) kX4_valueOf 30 dX8_runOnce_27 rfl rfl mbX8_378 imX4_valueOf seX4_valueOf gcl4.1 (Sm.k j1 s0.2.2.2.2.2.2.2.2.2.2.2.2.2.2.1.1) (Nat.le_of_ble_eq_true rfl) (Nat.zero_le _) (Nat.zero_le _) (uX4_valueOf (N := N) (K := K) (Su.sm j1 s0.2.2.2.2.2.2.2.2.2.2.2.2.2.2.1) (Tx.sm j1 s1) H (fun v1 M2 jj H => ?_))
  replace H := H (Sm.l jj)
  have j2 : Sm M M2 := Sm.tr j1 jj
  show Go X (d + 6) mc ms kX8_runOnce Q 30 [(5, .ref ((a0 + 1) + 1)), (0, .ref a0), (1, .ref a1), (2, .int (x2)), (3, .int (x3)), (4, .int (x4))] [.int (v1)] M2 0 0
  refine g_iconst (1) 31 dX8_runOnce_30 rfl rfl ?_
  refine g_icmp_eq 37 34 dX8_runOnce_31 rfl rfl (fun c1 => ?_) (fun c1 => ?_)
  · skip
    replace H := H.1 c1
    refine g_aload_n 1 38 dX8_runOnce_37 rfl rfl ?_
    refine g_getR 41 (a0 + 271) dX8_runOnce_38 rfl flX8_45 (Sm.k j2 s0.1) (Sm.r j2 s0.2.2.2.2.2.2.2.2.2.2.2.2.2.1) ?_
    refine g_aload_n 2 42 dX8_runOnce_41 rfl rfl ?_
    refine g_aload_n 2 43 dX8_runOnce_42 rfl rfl ?_
    refine g_getR 46 (a1 + 3) dX8_runOnce_43 rfl flX8_382 (Sm.k j2 s1.1) (Sm.r j2 s1.2.2.2.2.2.1) ?_
    refine g_iload_n 3 47 dX8_runOnce_46 rfl rfl ?_
    obtain ⟨b2, H⟩ := H
    refine h_iaload 48 (x2).toNatClampNeg dX8_runOnce_47 rfl rfl (Sm.k j2 s1.2.2.2.2.2.2.1) b2 ?_
    refine g_callV (mc1 := 0) (ms1 := 0) (b := (a0 + 271)) (rest := []) (av := [.ref a1, .int ((g_mi M2 (a1 + 3) (x2).toNatClampNeg))]) kX4_valueOf 51 dX8_runOnce_48 rfl rfl mbX8_378 imX4_valueOf seX4_valueOf gcl4.1 (Sm.k j2 s0.2.2.2.2.2.2.2.2.2.2.2.2.2.2.1.1) (Nat.le_of_ble_eq_true rfl) (Nat.zero_le _) (Nat.zero_le _) (uX4_valueOf (N := N) (K := K) (Su.sm j2 s0.2.2.2.2.2.2.2.2.2.2.2.2.2.2.1) (Tx.sm j2 s1) H (fun v2 M3 jj H => ?_))
    replace H := H (Sm.l jj)
    have j3 : Sm M M3 := Sm.tr j2 jj
    show Go X (d + 6) mc ms kX8_runOnce Q 51 [(5, .ref ((a0 + 1) + 1)), (0, .ref a0), (1, .ref a1), (2, .int (x2)), (3, .int (x3)), (4, .int (x4))] [.int (v2)] M3 0 0
    refine g_istore 53 [(6, .int (v2)), (5, .ref ((a0 + 1) + 1)), (0, .ref a0), (1, .ref a1), (2, .int (x2)), (3, .int (x3)), (4, .int (x4))] dX8_runOnce_51 rfl (Nat.le_of_ble_eq_true rfl) rfl ?_
    refine g_iload 0 55 dX8_runOnce_53 rfl rfl ?_
    refine g_ldc ((-2147483648)) 57 dX8_runOnce_55 rfl q3_218 ?_
    refine g_icmp_ne 63 60 dX8_runOnce_57 rfl rfl (fun c2 => ?_) (fun c2 => ?_)
    · skip
      replace H := H.1 c2
      refine g_aload_n 2 64 dX8_runOnce_63 rfl rfl ?_
      refine g_getR 67 (a0 + 135) dX8_runOnce_64 rfl flX8_29 (Sm.k j3 s0.1) (Sm.r j3 s0.2.2.2.2.2.2.2.1) ?_
      refine g_aload 1 69 dX8_runOnce_67 rfl rfl ?_
      refine g_callV (mc1 := 0) (ms1 := 0) (b := (a0 + 135)) (rest := []) (av := [.ref ((a0 + 1) + 1)]) kX0_draft 72 dX8_runOnce_69 rfl rfl mbX8_341 imX0_draft seX0_draft gcl0.1 (Sm.k j3 s0.2.2.2.2.2.2.2.2.1.1) (Nat.le_of_ble_eq_true rfl) (Nat.zero_le _) (Nat.zero_le _) (uX0_draft (N := N) (K := K) (Hi.sm j3 s0.2.2.2.2.2.2.2.2.1) (St.sm j3 s0.2.2.1.2.2.1) H (fun M4 jj H => ?_))
      replace H := H (Sm.l jj)
      have j4 : Sm M M4 := Sm.tr j3 jj
      show Go X (d + 6) mc ms kX8_runOnce Q 72 [(6, .int (v2)), (5, .ref ((a0 + 1) + 1)), (0, .ref a0), (1, .ref a1), (2, .int (x2)), (3, .int (x3)), (4, .int (x4))] [] M4 0 0
      refine g_aload_n 2 73 dX8_runOnce_72 rfl rfl ?_
      refine g_aload 1 75 dX8_runOnce_73 rfl rfl ?_
      refine g_aload_n 3 76 dX8_runOnce_75 rfl rfl ?_
      refine g_getR 79 (a1 + 1) dX8_runOnce_76 rfl flX8_205 (Sm.k j4 s1.1) (Sm.r j4 s1.2.1) ?_
      refine g_iload_n 4 80 dX8_runOnce_79 rfl rfl ?_
      obtain ⟨b3, H⟩ := H
      refine h_iaload 81 (x2).toNatClampNeg dX8_runOnce_80 rfl rfl (Sm.k j4 s1.2.2.1) b3 ?_
      refine g_iload 0 83 dX8_runOnce_81 rfl rfl ?_
      refine g_callV (mc1 := 0) (ms1 := 0) (b := a0) (rest := []) (av := [.ref ((a0 + 1) + 1), .int ((g_mi M4 (a1 + 1) (x2).toNatClampNeg)), .int (v2)]) kX8_carryOut 86 dX8_runOnce_83 rfl rfl mbX8_324 imX8_carryOut seX8_carryOut gcl8.1 (Sm.k j4 s0.1) (Nat.le_of_ble_eq_true rfl) (Nat.zero_le _) (Nat.zero_le _) (uX8_carryOut (N := N) (K := K) (Ph.sm j4 s0) (St.sm j4 s0.2.2.1.2.2.1) H (fun v3 M5 jj H => ?_))
      replace H := H (Sm.l jj)
      have j5 : Sm M M5 := Sm.tr j4 jj
      show Go X (d + 6) mc ms kX8_runOnce Q 86 [(6, .int (v2)), (5, .ref ((a0 + 1) + 1)), (0, .ref a0), (1, .ref a1), (2, .int (x2)), (3, .int (x3)), (4, .int (x4))] [.int (v3)] M5 0 0
      refine g_istore 88 [(7, .int (v3)), (6, .int (v2)), (5, .ref ((a0 + 1) + 1)), (0, .ref a0), (1, .ref a1), (2, .int (x2)), (3, .int (x3)), (4, .int (x4))] dX8_runOnce_86 rfl (Nat.le_of_ble_eq_true rfl) rfl ?_
      refine g_iload 0 90 dX8_runOnce_88 rfl rfl ?_
      refine g_if_lt 106 93 dX8_runOnce_90 rfl rfl (fun c3 => ?_) (fun c3 => ?_)
      · skip
        replace H := H.1 c3
        refine g_iload 0 108 dX8_runOnce_106 rfl rfl ?_
        exact g_iret dX8_runOnce_108 rfl (Nat.zero_le _) (Nat.zero_le _) (hR _ _ j5 H)
      · skip
        replace H := H.2 c3
        refine g_aload_n 3 94 dX8_runOnce_93 rfl rfl ?_
        refine g_getR 97 (a0 + 135) dX8_runOnce_94 rfl flX8_29 (Sm.k j5 s0.1) (Sm.r j5 s0.2.2.2.2.2.2.2.1) ?_
        refine g_aload_n 4 98 dX8_runOnce_97 rfl rfl ?_
        refine g_getR 101 (a1 + 1) dX8_runOnce_98 rfl flX8_205 (Sm.k j5 s1.1) (Sm.r j5 s1.2.1) ?_
        refine g_iload_n 5 102 dX8_runOnce_101 rfl rfl ?_
        obtain ⟨b4, H⟩ := H
        refine h_iaload 103 (x2).toNatClampNeg dX8_runOnce_102 rfl rfl (Sm.k j5 s1.2.2.1) b4 ?_
        refine g_callV (mc1 := 0) (ms1 := 0) (b := (a0 + 135)) (rest := []) (av := [.int ((g_mi M5 (a1 + 1) (x2).toNatClampNeg))]) kX0_keep 106 dX8_runOnce_103 rfl rfl mbX8_344 imX0_keep seX0_keep gcl0.1 (Sm.k j5 s0.2.2.2.2.2.2.2.2.1.1) (Nat.le_of_ble_eq_true rfl) (Nat.zero_le _) (Nat.zero_le _) (uX0_keep (N := N) (K := K) (Hi.sm j5 s0.2.2.2.2.2.2.2.2.1) H (fun M6 jj H => ?_))
        replace H := H (Sm.l jj)
        have j6 : Sm M M6 := Sm.tr j5 jj
        show Go X (d + 6) mc ms kX8_runOnce Q 106 [(7, .int (v3)), (6, .int (v2)), (5, .ref ((a0 + 1) + 1)), (0, .ref a0), (1, .ref a1), (2, .int (x2)), (3, .int (x3)), (4, .int (x4))] [] M6 0 0
        refine g_iload 0 108 dX8_runOnce_106 rfl rfl ?_
        exact g_iret dX8_runOnce_108 rfl (Nat.zero_le _) (Nat.zero_le _) (hR _ _ j6 H)
    · skip
      replace H := H.2 c2
      refine g_bipush ((-3)) 62 dX8_runOnce_60 rfl rfl ?_
      exact g_iret dX8_runOnce_62 rfl (Nat.zero_le _) (Nat.zero_le _) (hR _ _ j3 H)
  · skip
    replace H := H.2 c1
    refine g_ldc ((-2147483648)) 36 dX8_runOnce_34 rfl q3_218 ?_
    exact g_iret dX8_runOnce_36 rfl (Nat.zero_le _) (Nat.zero_le _) (hR _ _ j2 H)
/-! X8_orders -/
def pX8_orders_0 (N K : Nat) (kp : Nat → gM → Nat → Nat → Nat → Nat → Int32 → Int32 → Int32 → Int32 → Prop) (R : Int32 → gM → Prop) (M : gM) (a0 : Nat) : Prop := ∀ M1 : gM, M1 = (g_wi M a0 14 (-1)) → pX2_read N K M1 (a0 + 282) 1 (fun v1 M2 => Sl M1 M2 → ((¬ v1 = 0 → pX3_copyFrom N K M2 (a0 + 257) ((a0 + 1) + 1) (fun M3 => Sl M2 M3 → pX0_clear N K M3 (a0 + 135) (fun M4 => Sl M3 M4 → kp 0 M4 a0 ((a0 + 282) + 2) 12 460 0 (-1) 0 0))) ∧ (v1 = 0 → pX8_refuse N K M2 a0 (-6) (fun v2 M5 => Sl M2 M5 → R v2 M5))))
def pX8_orders_59 (N K : Nat) (kp : Nat → gM → Nat → Nat → Nat → Nat → Int32 → Int32 → Int32 → Int32 → Prop) (R : Int32 → gM → Prop) (M : gM) (a0 : Nat) (a1 : Nat) (n1 : Nat) (m1 : Nat) (x2 : Int32) (x3 : Int32) (x4 : Int32) : Prop := (((g_mi M a1 6) ≤ x4 → pX0_appendAll N K M (a0 + 13) (a0 + 135) (fun M1 => Sl M M1 → pX8_accept N K M1 a0 x2 (fun v1 M2 => Sl M1 M2 → R v1 M2))) ∧ (¬ (g_mi M a1 6) ≤ x4 → kp 1 M a0 a1 n1 m1 x2 x3 x4 0))
def pX8_orders_71 (N K : Nat) (kp : Nat → gM → Nat → Nat → Nat → Nat → Int32 → Int32 → Int32 → Int32 → Prop) (R : Int32 → gM → Prop) (M : gM) (a0 : Nat) (a1 : Nat) (n1 : Nat) (m1 : Nat) (x2 : Int32) (x3 : Int32) (x4 : Int32) (x5 : Int32) : Prop := (vp_in (x4) n1) ∧ (((g_mi M (a1 + 2) (x4).toNatClampNeg) ≤ x5 → kp 0 M a0 a1 n1 m1 x2 x3 (x4 + 1) 0) ∧ (¬ (g_mi M (a1 + 2) (x4).toNatClampNeg) ≤ x5 → pX8_runOnce N K M a0 a1 n1 m1 x4 x2 x3 (fun v1 M1 => Sl M M1 → ((¬ v1 = (-2147483648) → ((0 ≤ v1 → (vp_in (x4) n1) ∧ ((¬ (g_mi M1 (a1 + 1) (x4).toNatClampNeg) = 4 → kp 1 M1 a0 a1 n1 m1 (x2 + 1) x3 x4 (x5 + 1)) ∧ ((g_mi M1 (a1 + 1) (x4).toNatClampNeg) = 4 → kp 1 M1 a0 a1 n1 m1 (x2 + 1) v1 x4 (x5 + 1)))) ∧ (¬ 0 ≤ v1 → pX3_copyFrom N K M1 ((a0 + 1) + 1) (a0 + 257) (fun M2 => Sl M1 M2 → ∀ M3 : gM, M3 = (g_wi M2 a0 14 x4) → pX8_refuse N K M3 a0 (-3) (fun v2 M4 => Sl M3 M4 → R v2 M4))))) ∧ (v1 = (-2147483648) → kp 1 M1 a0 a1 n1 m1 x2 x3 x4 (x5 + 1))))))
def qX8_orders (N K : Nat) (R : Int32 → gM → Prop) : Nat → Nat → gM → Nat → Nat → Nat → Nat → Int32 → Int32 → Int32 → Int32 → Prop
  | 0, _, _, _, _, _, _, _, _, _, _ => False
  | n + 1, h, M, a0, a1, n1, m1, x2, x3, x4, x5 => if h = 0 then pX8_orders_59 N K (qX8_orders N K R n) R M a0 a1 n1 m1 x2 x3 x4 else pX8_orders_71 N K (qX8_orders N K R n) R M a0 a1 n1 m1 x2 x3 x4 x5
def pX8_orders (N K : Nat) (M : gM) (a0 : Nat) (R : Int32 → gM → Prop) : Prop := pX8_orders_0 N K (qX8_orders N K R N) R M a0
def ULX8_orders (X : gX) (d mc ms : Nat) (Q : Option Value → gM → Prop) (N K : Nat) (R : Int32 → gM → Prop) (n : Nat) : Prop := (∀ (M : gM) (a0 : Nat) (a1 : Nat) (n1 : Nat) (m1 : Nat) (x2 : Int32) (x3 : Int32) (x4 : Int32) (x5 : Int32), Ph M a0 → Tx M a1 n1 m1 → qX8_orders N K R n 0 M a0 a1 n1 m1 x2 x3 x4 x5 → (∀ (v : Int32) (M1 : gM), Sm M M1 → R v M1 → Q (some (.int v)) M1) → Go X (d + K + 7) mc ms kX8_orders Q 59 [(0, .ref a0), (1, .ref a1), (2, .int (x2)), (3, .int (x3)), (4, .int (x4))] [] M 0 0) ∧ (∀ (M : gM) (a0 : Nat) (a1 : Nat) (n1 : Nat) (m1 : Nat) (x2 : Int32) (x3 : Int32) (x4 : Int32) (x5 : Int32), Ph M a0 → Tx M a1 n1 m1 → qX8_orders N K R n 1 M a0 a1 n1 m1 x2 x3 x4 x5 → (∀ (v : Int32) (M1 : gM), Sm M M1 → R v M1 → Q (some (.int v)) M1) → Go X (d + K + 7) mc ms kX8_orders Q 71 [(0, .ref a0), (1, .ref a1), (2, .int (x2)), (3, .int (x3)), (4, .int (x4)), (5, .int (x5))] [] M 0 0)
set_option maxRecDepth 10000 in
theorem ulX8_orders {X : gX} {d mc ms : Nat} {Q : Option Value → gM → Prop} {N K : Nat} {R : Int32 → gM → Prop} : ∀ n : Nat, ULX8_orders X d mc ms Q N K R n := by
  intro n
  induction n with
  | zero => exact ⟨fun _ _ _ _ _ _ _ _ _ _ _ h _ => h.elim, fun _ _ _ _ _ _ _ _ _ _ _ h _ => h.elim⟩
  | succ n ih =>
    refine ⟨?_, ?_⟩
    · intro M a0 a1 n1 m1 x2 x3 x4 x5 s0 s1 H hR
      rw [qX8_orders, if_pos (show (0 : Nat) = 0 from rfl)] at H
      unfold pX8_orders_59 at H
      refine g_iload 4 61 dX8_orders_59 rfl rfl ?_
      refine g_aload_n 1 62 dX8_orders_61 rfl rfl ?_
      refine g_getI 65 dX8_orders_62 rfl flX8_196 s1.1 ?_
      refine g_icmp_ge 165 68 dX8_orders_65 rfl rfl (fun c1 => ?_) (fun c1 => ?_)
      · skip
        replace H := H.1 c1
        refine g_aload_n 0 166 dX8_orders_165 rfl rfl ?_
        refine g_getR 169 (a0 + 13) dX8_orders_166 rfl flX8_25 s0.1 s0.2.2.2.2.2.1 ?_
        refine g_aload_n 0 170 dX8_orders_169 rfl rfl ?_
        refine g_getR 173 (a0 + 135) dX8_orders_170 rfl flX8_29 s0.1 s0.2.2.2.2.2.2.2.1 ?_
        refine g_callV (mc1 := 0) (ms1 := 0) (b := (a0 + 13)) (rest := []) (av := [.ref (a0 + 135)]) kX0_appendAll 176 dX8_orders_173 rfl rfl mbX8_208 imX0_appendAll seX0_appendAll gcl0.1 s0.2.2.2.2.2.2.1.1 (Nat.le_of_ble_eq_true rfl) (Nat.zero_le _) (Nat.zero_le _) (uX0_appendAll (N := N) (K := K) s0.2.2.2.2.2.2.1 s0.2.2.2.2.2.2.2.2.1 H (fun M1 jj H => ?_))
        replace H := H (Sm.l jj)
        have j1 : Sm M M1 := jj
        show Go X (d + K + 7) mc ms kX8_orders Q 176 [(0, .ref a0), (1, .ref a1), (2, .int (x2)), (3, .int (x3)), (4, .int (x4))] [] M1 0 0
        refine g_aload_n 0 177 dX8_orders_176 rfl rfl ?_
        refine g_iload_n 2 178 dX8_orders_177 rfl rfl ?_
        refine g_callV (mc1 := 0) (ms1 := 0) (b := a0) (rest := []) (av := [.int (x2)]) kX8_accept 181 dX8_orders_178 rfl rfl mbX8_155 imX8_accept seX8_accept gcl8.1 (Sm.k j1 s0.1) (Nat.le_of_ble_eq_true rfl) (Nat.zero_le _) (Nat.zero_le _) (uX8_accept (N := N) (K := K) (Ph.sm j1 s0) H (fun v1 M2 jj H => ?_))
        replace H := H (Sm.l jj)
        have j2 : Sm M M2 := Sm.tr j1 jj
        show Go X (d + K + 7) mc ms kX8_orders Q 181 [(0, .ref a0), (1, .ref a1), (2, .int (x2)), (3, .int (x3)), (4, .int (x4))] [.int (v1)] M2 0 0
        exact g_iret dX8_orders_181 rfl (Nat.zero_le _) (Nat.zero_le _) (hR _ _ j2 H)
      · skip
        replace H := H.2 c1
        refine g_iconst (0) 69 dX8_orders_68 rfl rfl ?_
        refine g_istore 71 [(5, .int (0)), (0, .ref a0), (1, .ref a1), (2, .int (x2)), (3, .int (x3)), (4, .int (x4))] dX8_orders_69 rfl (Nat.le_of_ble_eq_true rfl) rfl ?_
        exact g_sub [1, 2, 3, 4, 5, 0] _ rfl (ih.2 M a0 a1 n1 m1 x2 x3 x4 0 s0 s1 H (fun v M1 j r => hR v M1 j r))
    · intro M a0 a1 n1 m1 x2 x3 x4 x5 s0 s1 H hR
      rw [qX8_orders, if_neg (show ¬ (1 : Nat) = 0 by decide)] at H
      unfold pX8_orders_71 at H
      refine g_iload 5 73 dX8_orders_71 rfl rfl ?_
      refine g_aload_n 1 74 dX8_orders_73 rfl rfl ?_
      refine g_getR 77 (a1 + 2) dX8_orders_74 rfl flX8_197 s1.1 s1.2.2.2.1 ?_
      refine g_iload 4 79 dX8_orders_77 rfl rfl ?_
      obtain ⟨b1, H⟩ := H
      refine h_iaload 80 (x4).toNatClampNeg dX8_orders_79 rfl rfl s1.2.2.2.2.1 b1 ?_
      refine g_icmp_ge 159 83 dX8_orders_80 rfl rfl (fun c1 => ?_) (fun c1 => ?_)
      · skip
        replace H := H.1 c1
        refine g_iinc _ 4 162 [(4, .int ((x4 + 1))), (0, .ref a0), (1, .ref a1), (2, .int (x2)), (3, .int (x3)), (5, .int (x5))] dX8_orders_159 rfl rfl rfl (Nat.le_of_ble_eq_true rfl) rfl ?_
        refine g_goto 59 dX8_orders_162 rfl ?_
        exact g_sub [1, 2, 3, 4, 0] _ rfl (ih.1 M a0 a1 n1 m1 x2 x3 (x4 + 1) 0 s0 s1 H (fun v M1 j r => hR v M1 j r))
      · skip
        replace H := H.2 c1
        refine g_aload_n 0 84 dX8_orders_83 rfl rfl ?_
        refine g_aload_n 1 85 dX8_orders_84 rfl rfl ?_
        refine g_iload 4 87 dX8_orders_85 rfl rfl ?_
        refine g_iload_n 2 88 dX8_orders_87 rfl rfl ?_
        refine g_iload_n 3 89 dX8_orders_88 rfl rfl ?_
        refine g_callV (mc1 := 0) (ms1 := 0) (b := a0) (rest := []) (av := [.ref a1, .int (x4), .int (x2), .int (x3)]) kX8_runOnce 92 dX8_orders_89 rfl rfl mbX8_200 imX8_runOnce seX8_runOnce gcl8.1 s0.1 (Nat.le_of_ble_eq_true rfl) (Nat.zero_le _) (Nat.zero_le _) (uX8_runOnce (N := N) (K := K) s0 s1 H (fun v1 M1 jj H => ?_))
        replace H := H (Sm.l jj)
        have j1 : Sm M M1 := jj
        show Go X (d + K + 7) mc ms kX8_orders Q 92 [(0, .ref a0), (1, .ref a1), (2, .int (x2)), (3, .int (x3)), (4, .int (x4)), (5, .int (x5))] [.int (v1)] M1 0 0
        refine g_istore 94 [(6, .int (v1)), (0, .ref a0), (1, .ref a1), (2, .int (x2)), (3, .int (x3)), (4, .int (x4)), (5, .int (x5))] dX8_orders_92 rfl (Nat.le_of_ble_eq_true rfl) rfl ?_
        refine g_iload 0 96 dX8_orders_94 rfl rfl ?_
        refine g_ldc ((-2147483648)) 98 dX8_orders_96 rfl q3_218 ?_
        refine g_icmp_ne 104 101 dX8_orders_98 rfl rfl (fun c2 => ?_) (fun c2 => ?_)
        · skip
          replace H := H.1 c2
          refine g_iload 0 106 dX8_orders_104 rfl rfl ?_
          refine g_if_ge 136 109 dX8_orders_106 rfl rfl (fun c3 => ?_) (fun c3 => ?_)
          · skip
            replace H := H.1 c3
            refine g_iinc _ 3 139 [(2, .int ((x2 + 1))), (6, .int (v1)), (0, .ref a0), (1, .ref a1), (3, .int (x3)), (4, .int (x4)), (5, .int (x5))] dX8_orders_136 rfl rfl rfl (Nat.le_of_ble_eq_true rfl) rfl ?_
            refine g_aload_n 3 140 dX8_orders_139 rfl rfl ?_
            refine g_getR 143 (a1 + 1) dX8_orders_140 rfl flX8_205 (Sm.k j1 s1.1) (Sm.r j1 s1.2.1) ?_
            refine g_iload 5 145 dX8_orders_143 rfl rfl ?_
            obtain ⟨b2, H⟩ := H
            refine h_iaload 146 (x4).toNatClampNeg dX8_orders_145 rfl rfl (Sm.k j1 s1.2.2.1) b2 ?_
            refine g_iconst (4) 147 dX8_orders_146 rfl rfl ?_
            refine g_icmp_ne 153 150 dX8_orders_147 rfl rfl (fun c4 => ?_) (fun c4 => ?_)
            · skip
              replace H := H.1 c4
              refine g_iinc _ 6 156 [(5, .int ((x5 + 1))), (2, .int ((x2 + 1))), (6, .int (v1)), (0, .ref a0), (1, .ref a1), (3, .int (x3)), (4, .int (x4))] dX8_orders_153 rfl rfl rfl (Nat.le_of_ble_eq_true rfl) rfl ?_
              refine g_goto 71 dX8_orders_156 rfl ?_
              exact g_sub [3, 4, 1, 5, 6, 0] _ rfl (ih.2 M1 a0 a1 n1 m1 (x2 + 1) x3 x4 (x5 + 1) (Ph.sm j1 s0) (Tx.sm j1 s1) H (fun v M1 j r => hR v M1 (Sm.tr j1 j) r))
            · skip
              replace H := H.2 c4
              refine g_iload 1 152 dX8_orders_150 rfl rfl ?_
              refine g_istore_n 153 [(3, .int (v1)), (2, .int ((x2 + 1))), (6, .int (v1)), (0, .ref a0), (1, .ref a1), (4, .int (x4)), (5, .int (x5))] dX8_orders_152 rfl (Nat.le_of_ble_eq_true rfl) rfl ?_
              refine g_iinc _ 6 156 [(5, .int ((x5 + 1))), (3, .int (v1)), (2, .int ((x2 + 1))), (6, .int (v1)), (0, .ref a0), (1, .ref a1), (4, .int (x4))] dX8_orders_153 rfl rfl rfl (Nat.le_of_ble_eq_true rfl) rfl ?_
              refine g_goto 71 dX8_orders_156 rfl ?_
              exact g_sub [4, 5, 2, 1, 6, 0] _ rfl (ih.2 M1 a0 a1 n1 m1 (x2 + 1) v1 x4 (x5 + 1) (Ph.sm j1 s0) (Tx.sm j1 s1) H (fun v M1 j r => hR v M1 (Sm.tr j1 j) r))
          · skip
            replace H := H.2 c3
            refine g_aload_n 1 110 dX8_orders_109 rfl rfl ?_
            refine g_getR 113 (a0 + 1) dX8_orders_110 rfl flX8_14 (Sm.k j1 s0.1) (Sm.r j1 s0.2.1) ?_
            refine g_getR 116 ((a0 + 1) + 1) dX8_orders_113 rfl flX8_102 (Sm.k j1 s0.2.2.1.1) (Sm.r j1 s0.2.2.1.2.1) ?_
            refine g_aload_n 1 117 dX8_orders_116 rfl rfl ?_
            refine g_getR 120 (a0 + 257) dX8_orders_117 rfl flX8_35 (Sm.k j1 s0.1) (Sm.r j1 s0.2.2.2.2.2.2.2.2.2.1) ?_
            refine g_callV (mc1 := 0) (ms1 := 0) (b := ((a0 + 1) + 1)) (rest := []) (av := [.ref (a0 + 257)]) kX3_copyFrom 123 dX8_orders_120 rfl rfl mbX8_192 imX3_copyFrom seX3_copyFrom gcl3.1 (Sm.k j1 s0.2.2.1.2.2.1.1) (Nat.le_of_ble_eq_true rfl) (Nat.zero_le _) (Nat.zero_le _) (uX3_copyFrom (N := N) (K := K) (St.sm j1 s0.2.2.1.2.2.1) (St.sm j1 s0.2.2.2.2.2.2.2.2.2.2.1) H (fun M2 jj H => ?_))
            replace H := H (Sm.l jj)
            have j2 : Sm M M2 := Sm.tr j1 jj
            show Go X (d + K + 7) mc ms kX8_orders Q 123 [(6, .int (v1)), (0, .ref a0), (1, .ref a1), (2, .int (x2)), (3, .int (x3)), (4, .int (x4)), (5, .int (x5))] [] M2 0 0
            refine g_aload_n 1 124 dX8_orders_123 rfl rfl ?_
            refine g_iload 5 126 dX8_orders_124 rfl rfl ?_
            refine g_putI 129 dX8_orders_126 rfl flX8_88 (Sm.k j2 s0.1) ?_
            generalize hM3 : (g_wi M2 a0 14 x4) = M3
            have j3 : Sm M M3 := by rw [← hM3]; exact (Sm.wi j2)
            replace H := H M3 hM3.symm
            refine g_aload_n 1 130 dX8_orders_129 rfl rfl ?_
            refine g_bipush ((-3)) 132 dX8_orders_130 rfl rfl ?_
            refine g_callV (mc1 := 0) (ms1 := 0) (b := a0) (rest := []) (av := [.int ((-3))]) kX8_refuse 135 dX8_orders_132 rfl rfl mbX8_146 imX8_refuse seX8_refuse gcl8.1 (Sm.k j3 s0.1) (Nat.le_of_ble_eq_true rfl) (Nat.zero_le _) (Nat.zero_le _) (uX8_refuse (N := N) (K := K) (Ph.sm j3 s0) H (fun v2 M4 jj H => ?_))
            replace H := H (Sm.l jj)
            have j4 : Sm M M4 := Sm.tr j3 jj
            show Go X (d + K + 7) mc ms kX8_orders Q 135 [(6, .int (v1)), (0, .ref a0), (1, .ref a1), (2, .int (x2)), (3, .int (x3)), (4, .int (x4)), (5, .int (x5))] [.int (v2)] M4 0 0
            exact g_iret dX8_orders_135 rfl (Nat.zero_le _) (Nat.zero_le _) (hR _ _ j4 H)
        · skip
          replace H := H.2 c2
          refine g_goto 153 dX8_orders_101 rfl ?_
          refine g_iinc _ 6 156 [(5, .int ((x5 + 1))), (6, .int (v1)), (0, .ref a0), (1, .ref a1), (2, .int (x2)), (3, .int (x3)), (4, .int (x4))] dX8_orders_153 rfl rfl rfl (Nat.le_of_ble_eq_true rfl) rfl ?_
          refine g_goto 71 dX8_orders_156 rfl ?_
          exact g_sub [2, 3, 4, 5, 6, 0] _ rfl (ih.2 M1 a0 a1 n1 m1 x2 x3 x4 (x5 + 1) (Ph.sm j1 s0) (Tx.sm j1 s1) H (fun v M1 j r => hR v M1 (Sm.tr j1 j) r))
set_option maxRecDepth 10000 in
theorem uX8_orders {N K : Nat} {X : gX} {d mc ms : Nat} {Q : Option Value → gM → Prop} {M : gM} {a0 : Nat} {R : Int32 → gM → Prop} (s0 : Ph M a0) (H : pX8_orders N K M a0 R) (hR : ∀ (v : Int32) (M1 : gM), Sm M M1 → R v M1 → Q (some (.int v)) M1) : Cn X (d + K + 7) mc ms kX8_orders [.ref a0] M Q := by
  have ih := ulX8_orders (X := X) (d := d) (mc := mc) (ms := ms) (Q := Q) (N := N) (K := K) (R := R) N
  unfold pX8_orders pX8_orders_0 at H
  refine g_meth rfl rfl (Nat.le_of_ble_eq_true rfl) rfl ?_
  refine g_aload_n 0 1 dX8_orders_0 rfl rfl ?_
  refine g_iconst ((-1)) 2 dX8_orders_1 rfl rfl ?_
  refine g_putI 5 dX8_orders_2 rfl flX8_88 s0.1 ?_
  generalize hM1 : (g_wi M a0 14 (-1)) = M1
  have j1 : Sm M M1 := by rw [← hM1]; exact (Sm.wi Sm.rf)
  replace H := H M1 hM1.symm
  refine g_aload_n 0 6 dX8_orders_5 rfl rfl ?_
  refine g_getR 9 (a0 + 282) dX8_orders_6 rfl flX8_61 (Sm.k j1 s0.1) (Sm.r j1 s0.2.2.2.2.2.2.2.2.2.2.2.2.2.2.2.2.2.1) ?_
  refine g_iconst (1) 10 dX8_orders_9 rfl rfl ?_
  refine g_callV (mc1 := 0) (ms1 := 0) (b := (a0 + 282)) (rest := []) (av := [.int (1)]) kX2_read 13 dX8_orders_10 rfl rfl mbX8_178 imX2_read seX2_read gcl2.1 (Sm.k j1 s0.2.2.2.2.2.2.2.2.2.2.2.2.2.2.2.2.2.2.1.1) (Nat.le_of_ble_eq_true rfl) (Nat.zero_le _) (Nat.zero_le _) (uX2_read (N := N) (K := K) (Re.sm j1 s0.2.2.2.2.2.2.2.2.2.2.2.2.2.2.2.2.2.2.1) H (fun v1 M2 jj H => ?_))
  replace H := H (Sm.l jj)
  have j2 : Sm M M2 := Sm.tr j1 jj
  show Go X (d + K + 7) mc ms kX8_orders Q 13 [(0, .ref a0)] [.int (v1)] M2 0 0
  refine g_if_ne 23 16 dX8_orders_13 rfl rfl (fun c1 => ?_) (fun c1 => ?_)
  · skip
    replace H := H.1 c1
    refine g_aload_n 0 24 dX8_orders_23 rfl rfl ?_
    refine g_getR 27 (a0 + 282) dX8_orders_24 rfl flX8_61 (Sm.k j2 s0.1) (Sm.r j2 s0.2.2.2.2.2.2.2.2.2.2.2.2.2.2.2.2.2.1) ?_
    refine g_getR 30 ((a0 + 282) + 2) dX8_orders_27 rfl flX8_186 (Sm.k j2 s0.2.2.2.2.2.2.2.2.2.2.2.2.2.2.2.2.2.2.1.1) (Sm.r j2 s0.2.2.2.2.2.2.2.2.2.2.2.2.2.2.2.2.2.2.1.2.2.2.1) ?_
    refine g_astore_n 31 [(1, .ref ((a0 + 282) + 2)), (0, .ref a0)] dX8_orders_30 rfl (Nat.le_of_ble_eq_true rfl) rfl ?_
    refine g_aload_n 1 32 dX8_orders_31 rfl rfl ?_
    refine g_getR 35 (a0 + 257) dX8_orders_32 rfl flX8_35 (Sm.k j2 s0.1) (Sm.r j2 s0.2.2.2.2.2.2.2.2.2.1) ?_
    refine g_aload_n 1 36 dX8_orders_35 rfl rfl ?_
    refine g_getR 39 (a0 + 1) dX8_orders_36 rfl flX8_14 (Sm.k j2 s0.1) (Sm.r j2 s0.2.1) ?_
    refine g_getR 42 ((a0 + 1) + 1) dX8_orders_39 rfl flX8_102 (Sm.k j2 s0.2.2.1.1) (Sm.r j2 s0.2.2.1.2.1) ?_
    refine g_callV (mc1 := 0) (ms1 := 0) (b := (a0 + 257)) (rest := []) (av := [.ref ((a0 + 1) + 1)]) kX3_copyFrom 45 dX8_orders_42 rfl rfl mbX8_192 imX3_copyFrom seX3_copyFrom gcl3.1 (Sm.k j2 s0.2.2.2.2.2.2.2.2.2.2.1.1) (Nat.le_of_ble_eq_true rfl) (Nat.zero_le _) (Nat.zero_le _) (uX3_copyFrom (N := N) (K := K) (St.sm j2 s0.2.2.2.2.2.2.2.2.2.2.1) (St.sm j2 s0.2.2.1.2.2.1) H (fun M3 jj H => ?_))
    replace H := H (Sm.l jj)
    have j3 : Sm M M3 := Sm.tr j2 jj
    show Go X (d + K + 7) mc ms kX8_orders Q 45 [(1, .ref ((a0 + 282) + 2)), (0, .ref a0)] [] M3 0 0
    refine g_aload_n 1 46 dX8_orders_45 rfl rfl ?_
    refine g_getR 49 (a0 + 135) dX8_orders_46 rfl flX8_29 (Sm.k j3 s0.1) (Sm.r j3 s0.2.2.2.2.2.2.2.1) ?_
    refine g_callV (mc1 := 0) (ms1 := 0) (b := (a0 + 135)) (rest := []) (av := []) kX0_clear 52 dX8_orders_49 rfl rfl mbX8_152 imX0_clear seX0_clear gcl0.1 (Sm.k j3 s0.2.2.2.2.2.2.2.2.1.1) (Nat.le_of_ble_eq_true rfl) (Nat.zero_le _) (Nat.zero_le _) (uX0_clear (N := N) (K := K) (Hi.sm j3 s0.2.2.2.2.2.2.2.2.1) H (fun M4 jj H => ?_))
    replace H := H (Sm.l jj)
    have j4 : Sm M M4 := Sm.tr j3 jj
    show Go X (d + K + 7) mc ms kX8_orders Q 52 [(1, .ref ((a0 + 282) + 2)), (0, .ref a0)] [] M4 0 0
    refine g_iconst (0) 53 dX8_orders_52 rfl rfl ?_
    refine g_istore_n 54 [(2, .int (0)), (1, .ref ((a0 + 282) + 2)), (0, .ref a0)] dX8_orders_53 rfl (Nat.le_of_ble_eq_true rfl) rfl ?_
    refine g_iconst ((-1)) 55 dX8_orders_54 rfl rfl ?_
    refine g_istore_n 56 [(3, .int ((-1))), (2, .int (0)), (1, .ref ((a0 + 282) + 2)), (0, .ref a0)] dX8_orders_55 rfl (Nat.le_of_ble_eq_true rfl) rfl ?_
    refine g_iconst (0) 57 dX8_orders_56 rfl rfl ?_
    refine g_istore 59 [(4, .int (0)), (3, .int ((-1))), (2, .int (0)), (1, .ref ((a0 + 282) + 2)), (0, .ref a0)] dX8_orders_57 rfl (Nat.le_of_ble_eq_true rfl) rfl ?_
    exact g_sub [4, 3, 2, 1, 0] _ rfl (ih.1 M4 a0 ((a0 + 282) + 2) 12 460 0 (-1) 0 0 (Ph.sm j4 s0) (Tx.sm j4 s0.2.2.2.2.2.2.2.2.2.2.2.2.2.2.2.2.2.2.1.2.2.2.2.1) H (fun v M1 j r => hR v M1 (Sm.tr j4 j) r))
  · skip
    replace H := H.2 c1
    refine g_aload_n 0 17 dX8_orders_16 rfl rfl ?_
    refine g_bipush ((-6)) 19 dX8_orders_17 rfl rfl ?_
    refine g_callV (mc1 := 0) (ms1 := 0) (b := a0) (rest := []) (av := [.int ((-6))]) kX8_refuse 22 dX8_orders_19 rfl rfl mbX8_146 imX8_refuse seX8_refuse gcl8.1 (Sm.k j2 s0.1) (Nat.le_of_ble_eq_true rfl) (Nat.zero_le _) (Nat.zero_le _) (uX8_refuse (N := N) (K := K) (Ph.sm j2 s0) H (fun v2 M5 jj H => ?_))
    replace H := H (Sm.l jj)
    have j5 : Sm M M5 := Sm.tr j2 jj
    show Go X (d + K + 7) mc ms kX8_orders Q 22 [(0, .ref a0)] [.int (v2)] M5 0 0
    exact g_iret dX8_orders_22 rfl (Nat.zero_le _) (Nat.zero_le _) (hR _ _ j5 H)
/-! X8_years -/
def pX8_years_0 (N K : Nat) (kp : Nat → gM → Nat → Int32 → Int32 → Int32 → Prop) (R : Int32 → gM → Prop) (M : gM) (a0 : Nat) (x1 : Int32) (x2 : Int32) : Prop := ((x1 < 0 → pX8_refuse N K M a0 (-1) (fun v1 M1 => Sl M M1 → R v1 M1)) ∧ (¬ x1 < 0 → ((1000000 < x1 → pX8_refuse N K M a0 (-1) (fun v2 M2 => Sl M M2 → R v2 M2)) ∧ (¬ 1000000 < x1 → ((x2 < 1 → pX8_refuse N K M a0 (-1) (fun v3 M3 => Sl M M3 → R v3 M3)) ∧ (¬ x2 < 1 → ((x2 ≤ 60 → pX3_copyFrom N K M (a0 + 264) ((a0 + 1) + 1) (fun M4 => Sl M M4 → kp 0 M4 a0 x2 x1 0)) ∧ (¬ x2 ≤ 60 → pX8_refuse N K M a0 (-1) (fun v4 M5 => Sl M M5 → R v4 M5)))))))))
def pX8_years_47 (N K : Nat) (kp : Nat → gM → Nat → Int32 → Int32 → Int32 → Prop) (R : Int32 → gM → Prop) (M : gM) (a0 : Nat) (x2 : Int32) (x3 : Int32) (x4 : Int32) : Prop := ((x2 ≤ x4 → kp 1 M a0 0 0 0) ∧ (¬ x2 ≤ x4 → ∀ v1 : Int32, v1 = (fX8_nextDrawing x3) → ∀ v2 : Int32, v2 = (fX8_nextDrawing v1) → ((5 ≤ (i_rm v2 8) → ((¬ (i_rm v2 8) = 5 → pX8_carryOut N K M a0 (a0 + 264) 4 (i_rm v1 40) (fun v3 M1 => Sl M M1 → kp 0 M1 a0 x2 v2 (x4 + 1))) ∧ ((i_rm v2 8) = 5 → pX8_carryOut N K M a0 (a0 + 264) 1 (i_rm v1 40) (fun v4 M2 => Sl M M2 → kp 0 M2 a0 x2 v2 (x4 + 1))))) ∧ (¬ 5 ≤ (i_rm v2 8) → pX8_carryOut N K M a0 (a0 + 264) 0 (i_rm v1 40) (fun v5 M3 => Sl M M3 → kp 0 M3 a0 x2 v2 (x4 + 1))))))
def pX8_years_116 (N K : Nat) (kp : Nat → gM → Nat → Int32 → Int32 → Int32 → Prop) (R : Int32 → gM → Prop) (M : gM) (a0 : Nat) (x4 : Int32) : Prop := ((40 ≤ x4 → pX8_accept N K M a0 (g_mi M (a0 + 264) 3) (fun v1 M1 => Sl M M1 → R v1 M1)) ∧ (¬ 40 ≤ x4 → pX5_numberOf N K M ((a0 + 264) + 3) x4 (fun v2 => (vp_in (x4) 40) ∧ ∀ M2 : gM, M2 = (g_wi M (a0 + 303) (x4).toNatClampNeg v2) → kp 1 M2 a0 0 0 (x4 + 1))))
def qX8_years (N K : Nat) (R : Int32 → gM → Prop) : Nat → Nat → gM → Nat → Int32 → Int32 → Int32 → Prop
  | 0, _, _, _, _, _, _ => False
  | n + 1, h, M, a0, x2, x3, x4 => if h = 0 then pX8_years_47 N K (qX8_years N K R n) R M a0 x2 x3 x4 else pX8_years_116 N K (qX8_years N K R n) R M a0 x4
def pX8_years (N K : Nat) (M : gM) (a0 : Nat) (x1 : Int32) (x2 : Int32) (R : Int32 → gM → Prop) : Prop := pX8_years_0 N K (qX8_years N K R N) R M a0 x1 x2
def ULX8_years (X : gX) (d mc ms : Nat) (Q : Option Value → gM → Prop) (N K : Nat) (R : Int32 → gM → Prop) (n : Nat) : Prop := (∀ (M : gM) (a0 : Nat) (x2 : Int32) (x3 : Int32) (x4 : Int32), Ph M a0 → qX8_years N K R n 0 M a0 x2 x3 x4 → (∀ (v : Int32) (M1 : gM), Sm M M1 → R v M1 → Q (some (.int v)) M1) → Go X (d + 6) mc ms kX8_years Q 47 [(0, .ref a0), (2, .int (x2)), (3, .int (x3)), (4, .int (x4))] [] M 0 0) ∧ (∀ (M : gM) (a0 : Nat) (x2 : Int32) (x3 : Int32) (x4 : Int32), Ph M a0 → qX8_years N K R n 1 M a0 x2 x3 x4 → (∀ (v : Int32) (M1 : gM), Sm M M1 → R v M1 → Q (some (.int v)) M1) → Go X (d + 6) mc ms kX8_years Q 116 [(0, .ref a0), (4, .int (x4))] [] M 0 0)
set_option maxRecDepth 10000 in
theorem ulX8_years {X : gX} {d mc ms : Nat} {Q : Option Value → gM → Prop} {N K : Nat} {R : Int32 → gM → Prop} : ∀ n : Nat, ULX8_years X d mc ms Q N K R n := by
  intro n
  induction n with
  | zero => exact ⟨fun _ _ _ _ _ _ h _ => h.elim, fun _ _ _ _ _ _ h _ => h.elim⟩
  | succ n ih =>
    refine ⟨?_, ?_⟩
    · intro M a0 x2 x3 x4 s0 H hR
      rw [qX8_years, if_pos (show (0 : Nat) = 0 from rfl)] at H
      unfold pX8_years_47 at H
      refine g_iload 3 49 dX8_years_47 rfl rfl ?_
      refine g_iload_n 1 50 dX8_years_49 rfl rfl ?_
      refine g_icmp_ge 113 53 dX8_years_50 rfl rfl (fun c1 => ?_) (fun c1 => ?_)
      · skip
        replace H := H.1 c1
        refine g_iconst (0) 114 dX8_years_113 rfl rfl ?_
        refine g_istore 116 [(4, .int (0)), (0, .ref a0), (2, .int (x2)), (3, .int (x3))] dX8_years_114 rfl (Nat.le_of_ble_eq_true rfl) rfl ?_
        exact g_sub [1, 0] _ rfl (ih.2 M a0 0 0 0 s0 H (fun v M1 j r => hR v M1 j r))
      · skip
        replace H := H.2 c1
        refine g_iload_n 2 54 dX8_years_53 rfl rfl ?_
        refine g_callS (mc1 := 0) (ms1 := 0) (rest := []) (av := [.int (x3)]) kX8_nextDrawing 57 dX8_years_54 rfl rfl mbX8_321 smX8_nextDrawing (Nat.le_of_ble_eq_true rfl) (Nat.zero_le _) (Nat.zero_le _) (tX8_nextDrawing  ?_)
        show Go X (d + 6) mc ms kX8_years Q 57 [(0, .ref a0), (2, .int (x2)), (3, .int (x3)), (4, .int (x4))] [.int ((fX8_nextDrawing x3))] M 0 0
        generalize hv1 : (fX8_nextDrawing x3) = v1
        replace H := H v1 hv1.symm
        refine g_istore_n 58 [(3, .int (v1)), (0, .ref a0), (2, .int (x2)), (4, .int (x4))] dX8_years_57 rfl (Nat.le_of_ble_eq_true rfl) rfl ?_
        refine g_iload_n 0 59 dX8_years_58 rfl rfl ?_
        refine g_bipush (40) 61 dX8_years_59 rfl rfl ?_
        refine h_irem 62 dX8_years_61 rfl (by decide) ?_
        refine g_istore 64 [(5, .int ((i_rm v1 40))), (3, .int (v1)), (0, .ref a0), (2, .int (x2)), (4, .int (x4))] dX8_years_62 rfl (Nat.le_of_ble_eq_true rfl) rfl ?_
        refine g_iload_n 1 65 dX8_years_64 rfl rfl ?_
        refine g_callS (mc1 := 0) (ms1 := 0) (rest := []) (av := [.int (v1)]) kX8_nextDrawing 68 dX8_years_65 rfl rfl mbX8_321 smX8_nextDrawing (Nat.le_of_ble_eq_true rfl) (Nat.zero_le _) (Nat.zero_le _) (tX8_nextDrawing  ?_)
        show Go X (d + 6) mc ms kX8_years Q 68 [(5, .int ((i_rm v1 40))), (3, .int (v1)), (0, .ref a0), (2, .int (x2)), (4, .int (x4))] [.int ((fX8_nextDrawing v1))] M 0 0
        generalize hv2 : (fX8_nextDrawing v1) = v2
        replace H := H v2 hv2.symm
        refine g_istore_n 69 [(3, .int (v2)), (5, .int ((i_rm v1 40))), (0, .ref a0), (2, .int (x2)), (4, .int (x4))] dX8_years_68 rfl (Nat.le_of_ble_eq_true rfl) rfl ?_
        refine g_iload_n 0 70 dX8_years_69 rfl rfl ?_
        refine g_bipush (8) 72 dX8_years_70 rfl rfl ?_
        refine h_irem 73 dX8_years_72 rfl (by decide) ?_
        refine g_istore 75 [(6, .int ((i_rm v2 8))), (3, .int (v2)), (5, .int ((i_rm v1 40))), (0, .ref a0), (2, .int (x2)), (4, .int (x4))] dX8_years_73 rfl (Nat.le_of_ble_eq_true rfl) rfl ?_
        refine g_aload_n 3 76 dX8_years_75 rfl rfl ?_
        refine g_aload_n 3 77 dX8_years_76 rfl rfl ?_
        refine g_getR 80 (a0 + 264) dX8_years_77 rfl flX8_39 s0.1 s0.2.2.2.2.2.2.2.2.2.2.2.1 ?_
        refine g_iload 0 82 dX8_years_80 rfl rfl ?_
        refine g_iconst (5) 83 dX8_years_82 rfl rfl ?_
        refine g_icmp_ge 90 86 dX8_years_83 rfl rfl (fun c2 => ?_) (fun c2 => ?_)
        · skip
          replace H := H.1 c2
          refine g_iload 0 92 dX8_years_90 rfl rfl ?_
          refine g_iconst (5) 93 dX8_years_92 rfl rfl ?_
          refine g_icmp_ne 100 96 dX8_years_93 rfl rfl (fun c3 => ?_) (fun c3 => ?_)
          · skip
            replace H := H.1 c3
            refine g_iconst (4) 101 dX8_years_100 rfl rfl ?_
            refine g_iload 2 103 dX8_years_101 rfl rfl ?_
            refine g_callV (mc1 := 0) (ms1 := 0) (b := a0) (rest := []) (av := [.ref (a0 + 264), .int (4), .int ((i_rm v1 40))]) kX8_carryOut 106 dX8_years_103 rfl rfl mbX8_324 imX8_carryOut seX8_carryOut gcl8.1 s0.1 (Nat.le_of_ble_eq_true rfl) (Nat.zero_le _) (Nat.zero_le _) (uX8_carryOut (N := N) (K := K) s0 s0.2.2.2.2.2.2.2.2.2.2.2.2.1 H (fun v3 M1 jj H => ?_))
            replace H := H (Sm.l jj)
            have j1 : Sm M M1 := jj
            show Go X (d + 6) mc ms kX8_years Q 106 [(6, .int ((i_rm v2 8))), (3, .int (v2)), (5, .int ((i_rm v1 40))), (0, .ref a0), (2, .int (x2)), (4, .int (x4))] [.int (v3)] M1 0 0
            refine g_pop 107 dX8_years_106 rfl rfl ?_
            refine g_iinc _ 5 110 [(4, .int ((x4 + 1))), (6, .int ((i_rm v2 8))), (3, .int (v2)), (5, .int ((i_rm v1 40))), (0, .ref a0), (2, .int (x2))] dX8_years_107 rfl rfl rfl (Nat.le_of_ble_eq_true rfl) rfl ?_
            refine g_goto 47 dX8_years_110 rfl ?_
            exact g_sub [4, 5, 2, 0] _ rfl (ih.1 M1 a0 x2 v2 (x4 + 1) (Ph.sm j1 s0) H (fun v M1 j r => hR v M1 (Sm.tr j1 j) r))
          · skip
            replace H := H.2 c3
            refine g_iconst (1) 97 dX8_years_96 rfl rfl ?_
            refine g_goto 101 dX8_years_97 rfl ?_
            refine g_iload 2 103 dX8_years_101 rfl rfl ?_
            refine g_callV (mc1 := 0) (ms1 := 0) (b := a0) (rest := []) (av := [.ref (a0 + 264), .int (1), .int ((i_rm v1 40))]) kX8_carryOut 106 dX8_years_103 rfl rfl mbX8_324 imX8_carryOut seX8_carryOut gcl8.1 s0.1 (Nat.le_of_ble_eq_true rfl) (Nat.zero_le _) (Nat.zero_le _) (uX8_carryOut (N := N) (K := K) s0 s0.2.2.2.2.2.2.2.2.2.2.2.2.1 H (fun v4 M2 jj H => ?_))
            replace H := H (Sm.l jj)
            have j2 : Sm M M2 := jj
            show Go X (d + 6) mc ms kX8_years Q 106 [(6, .int ((i_rm v2 8))), (3, .int (v2)), (5, .int ((i_rm v1 40))), (0, .ref a0), (2, .int (x2)), (4, .int (x4))] [.int (v4)] M2 0 0
            refine g_pop 107 dX8_years_106 rfl rfl ?_
            refine g_iinc _ 5 110 [(4, .int ((x4 + 1))), (6, .int ((i_rm v2 8))), (3, .int (v2)), (5, .int ((i_rm v1 40))), (0, .ref a0), (2, .int (x2))] dX8_years_107 rfl rfl rfl (Nat.le_of_ble_eq_true rfl) rfl ?_
            refine g_goto 47 dX8_years_110 rfl ?_
            exact g_sub [4, 5, 2, 0] _ rfl (ih.1 M2 a0 x2 v2 (x4 + 1) (Ph.sm j2 s0) H (fun v M1 j r => hR v M1 (Sm.tr j2 j) r))
        · skip
          replace H := H.2 c2
          refine g_iconst (0) 87 dX8_years_86 rfl rfl ?_
          refine g_goto 101 dX8_years_87 rfl ?_
          refine g_iload 2 103 dX8_years_101 rfl rfl ?_
          refine g_callV (mc1 := 0) (ms1 := 0) (b := a0) (rest := []) (av := [.ref (a0 + 264), .int (0), .int ((i_rm v1 40))]) kX8_carryOut 106 dX8_years_103 rfl rfl mbX8_324 imX8_carryOut seX8_carryOut gcl8.1 s0.1 (Nat.le_of_ble_eq_true rfl) (Nat.zero_le _) (Nat.zero_le _) (uX8_carryOut (N := N) (K := K) s0 s0.2.2.2.2.2.2.2.2.2.2.2.2.1 H (fun v5 M3 jj H => ?_))
          replace H := H (Sm.l jj)
          have j3 : Sm M M3 := jj
          show Go X (d + 6) mc ms kX8_years Q 106 [(6, .int ((i_rm v2 8))), (3, .int (v2)), (5, .int ((i_rm v1 40))), (0, .ref a0), (2, .int (x2)), (4, .int (x4))] [.int (v5)] M3 0 0
          refine g_pop 107 dX8_years_106 rfl rfl ?_
          refine g_iinc _ 5 110 [(4, .int ((x4 + 1))), (6, .int ((i_rm v2 8))), (3, .int (v2)), (5, .int ((i_rm v1 40))), (0, .ref a0), (2, .int (x2))] dX8_years_107 rfl rfl rfl (Nat.le_of_ble_eq_true rfl) rfl ?_
          refine g_goto 47 dX8_years_110 rfl ?_
          exact g_sub [4, 5, 2, 0] _ rfl (ih.1 M3 a0 x2 v2 (x4 + 1) (Ph.sm j3 s0) H (fun v M1 j r => hR v M1 (Sm.tr j3 j) r))
    · intro M a0 x2 x3 x4 s0 H hR
      rw [qX8_years, if_neg (show ¬ (1 : Nat) = 0 by decide)] at H
      unfold pX8_years_116 at H
      refine g_iload 1 118 dX8_years_116 rfl rfl ?_
      refine g_bipush (40) 120 dX8_years_118 rfl rfl ?_
      refine g_icmp_ge 148 123 dX8_years_120 rfl rfl (fun c1 => ?_) (fun c1 => ?_)
      · skip
        replace H := H.1 c1
        refine g_aload_n 0 149 dX8_years_148 rfl rfl ?_
        refine g_aload_n 0 150 dX8_years_149 rfl rfl ?_
        refine g_getR 153 (a0 + 264) dX8_years_150 rfl flX8_39 s0.1 s0.2.2.2.2.2.2.2.2.2.2.2.1 ?_
        refine g_getI 156 dX8_years_153 rfl flX8_137 s0.2.2.2.2.2.2.2.2.2.2.2.2.1.1 ?_
        refine g_callV (mc1 := 0) (ms1 := 0) (b := a0) (rest := []) (av := [.int ((g_mi M (a0 + 264) 3))]) kX8_accept 159 dX8_years_156 rfl rfl mbX8_155 imX8_accept seX8_accept gcl8.1 s0.1 (Nat.le_of_ble_eq_true rfl) (Nat.zero_le _) (Nat.zero_le _) (uX8_accept (N := N) (K := K) s0 H (fun v1 M1 jj H => ?_))
        replace H := H (Sm.l jj)
        have j1 : Sm M M1 := jj
        show Go X (d + 6) mc ms kX8_years Q 159 [(0, .ref a0), (4, .int (x4))] [.int (v1)] M1 0 0
        exact g_iret dX8_years_159 rfl (Nat.zero_le _) (Nat.zero_le _) (hR _ _ j1 H)
      · skip
        replace H := H.2 c1
        refine g_aload_n 0 124 dX8_years_123 rfl rfl ?_
        refine g_getR 127 (a0 + 303) dX8_years_124 rfl flX8_74 s0.1 s0.2.2.2.2.2.2.2.2.2.2.2.2.2.2.2.2.2.2.2.2.2.1 ?_
        refine g_iload 1 129 dX8_years_127 rfl rfl ?_
        refine g_aload_n 0 130 dX8_years_129 rfl rfl ?_
        refine g_getR 133 (a0 + 264) dX8_years_130 rfl flX8_39 s0.1 s0.2.2.2.2.2.2.2.2.2.2.2.1 ?_
        refine g_getR 136 ((a0 + 264) + 3) dX8_years_133 rfl flX8_250 s0.2.2.2.2.2.2.2.2.2.2.2.2.1.1 s0.2.2.2.2.2.2.2.2.2.2.2.2.1.2.2.2.2.2.1 ?_
        refine g_iload 1 138 dX8_years_136 rfl rfl ?_
        refine g_callV (mc1 := 0) (ms1 := 0) (b := ((a0 + 264) + 3)) (rest := [.int (x4), .ref (a0 + 303)]) (av := [.int (x4)]) kX5_numberOf 141 dX8_years_138 rfl rfl mbX8_263 imX5_numberOf seX5_numberOf gcl5.1 s0.2.2.2.2.2.2.2.2.2.2.2.2.1.2.2.2.2.2.2.1 (Nat.le_of_ble_eq_true rfl) (Nat.zero_le _) (Nat.zero_le _) (uX5_numberOf (N := N) (K := K) s0.2.2.2.2.2.2.2.2.2.2.2.2.1.2.2.2.2.2.2 H (fun v2 H => ?_))
        show Go X (d + 6) mc ms kX8_years Q 141 [(0, .ref a0), (4, .int (x4))] [.int (v2), .int (x4), .ref (a0 + 303)] M 0 0
        obtain ⟨b1, H⟩ := H
        refine h_iastore 142 (x4).toNatClampNeg dX8_years_141 rfl rfl s0.2.2.2.2.2.2.2.2.2.2.2.2.2.2.2.2.2.2.2.2.2.2.1 b1 ?_
        generalize hM2 : (g_wi M (a0 + 303) (x4).toNatClampNeg v2) = M2
        have j2 : Sm M M2 := by rw [← hM2]; exact (Sm.wi Sm.rf)
        replace H := H M2 hM2.symm
        refine g_iinc _ 1 145 [(4, .int ((x4 + 1))), (0, .ref a0)] dX8_years_142 rfl rfl rfl (Nat.le_of_ble_eq_true rfl) rfl ?_
        refine g_goto 116 dX8_years_145 rfl ?_
        exact g_sub [1, 0] _ rfl (ih.2 M2 a0 0 0 (x4 + 1) (Ph.sm j2 s0) H (fun v M1 j r => hR v M1 (Sm.tr j2 j) r))
set_option maxRecDepth 10000 in
theorem uX8_years {N K : Nat} {X : gX} {d mc ms : Nat} {Q : Option Value → gM → Prop} {M : gM} {a0 : Nat} {x1 : Int32} {x2 : Int32} {R : Int32 → gM → Prop} (s0 : Ph M a0) (H : pX8_years N K M a0 x1 x2 R) (hR : ∀ (v : Int32) (M1 : gM), Sm M M1 → R v M1 → Q (some (.int v)) M1) : Cn X (d + 6) mc ms kX8_years [.ref a0, .int (x1), .int (x2)] M Q := by
  have ih := ulX8_years (X := X) (d := d) (mc := mc) (ms := ms) (Q := Q) (N := N) (K := K) (R := R) N
  unfold pX8_years pX8_years_0 at H
  refine g_meth rfl rfl (Nat.le_of_ble_eq_true rfl) rfl ?_
  refine g_iload_n 1 1 dX8_years_0 rfl rfl ?_
  refine g_if_lt 22 4 dX8_years_1 rfl rfl (fun c1 => ?_) (fun c1 => ?_)
  · skip
    replace H := H.1 c1
    refine g_aload_n 0 23 dX8_years_22 rfl rfl ?_
    refine g_iconst ((-1)) 24 dX8_years_23 rfl rfl ?_
    refine g_callV (mc1 := 0) (ms1 := 0) (b := a0) (rest := []) (av := [.int ((-1))]) kX8_refuse 27 dX8_years_24 rfl rfl mbX8_146 imX8_refuse seX8_refuse gcl8.1 s0.1 (Nat.le_of_ble_eq_true rfl) (Nat.zero_le _) (Nat.zero_le _) (uX8_refuse (N := N) (K := K) s0 H (fun v1 M1 jj H => ?_))
    replace H := H (Sm.l jj)
    have j1 : Sm M M1 := jj
    show Go X (d + 6) mc ms kX8_years Q 27 [(0, .ref a0), (1, .int (x1)), (2, .int (x2))] [.int (v1)] M1 0 0
    exact g_iret dX8_years_27 rfl (Nat.zero_le _) (Nat.zero_le _) (hR _ _ j1 H)
  · skip
    replace H := H.2 c1
    refine g_iload_n 1 5 dX8_years_4 rfl rfl ?_
    refine g_ldcw (1000000) 8 dX8_years_5 rfl q4_200 ?_
    refine g_icmp_gt 22 11 dX8_years_8 rfl rfl (fun c2 => ?_) (fun c2 => ?_)
    · skip
      replace H := H.1 c2
      refine g_aload_n 0 23 dX8_years_22 rfl rfl ?_
      refine g_iconst ((-1)) 24 dX8_years_23 rfl rfl ?_
      refine g_callV (mc1 := 0) (ms1 := 0) (b := a0) (rest := []) (av := [.int ((-1))]) kX8_refuse 27 dX8_years_24 rfl rfl mbX8_146 imX8_refuse seX8_refuse gcl8.1 s0.1 (Nat.le_of_ble_eq_true rfl) (Nat.zero_le _) (Nat.zero_le _) (uX8_refuse (N := N) (K := K) s0 H (fun v2 M2 jj H => ?_))
      replace H := H (Sm.l jj)
      have j2 : Sm M M2 := jj
      show Go X (d + 6) mc ms kX8_years Q 27 [(0, .ref a0), (1, .int (x1)), (2, .int (x2))] [.int (v2)] M2 0 0
      exact g_iret dX8_years_27 rfl (Nat.zero_le _) (Nat.zero_le _) (hR _ _ j2 H)
    · skip
      replace H := H.2 c2
      refine g_iload_n 2 12 dX8_years_11 rfl rfl ?_
      refine g_iconst (1) 13 dX8_years_12 rfl rfl ?_
      refine g_icmp_lt 22 16 dX8_years_13 rfl rfl (fun c3 => ?_) (fun c3 => ?_)
      · skip
        replace H := H.1 c3
        refine g_aload_n 0 23 dX8_years_22 rfl rfl ?_
        refine g_iconst ((-1)) 24 dX8_years_23 rfl rfl ?_
        refine g_callV (mc1 := 0) (ms1 := 0) (b := a0) (rest := []) (av := [.int ((-1))]) kX8_refuse 27 dX8_years_24 rfl rfl mbX8_146 imX8_refuse seX8_refuse gcl8.1 s0.1 (Nat.le_of_ble_eq_true rfl) (Nat.zero_le _) (Nat.zero_le _) (uX8_refuse (N := N) (K := K) s0 H (fun v3 M3 jj H => ?_))
        replace H := H (Sm.l jj)
        have j3 : Sm M M3 := jj
        show Go X (d + 6) mc ms kX8_years Q 27 [(0, .ref a0), (1, .int (x1)), (2, .int (x2))] [.int (v3)] M3 0 0
        exact g_iret dX8_years_27 rfl (Nat.zero_le _) (Nat.zero_le _) (hR _ _ j3 H)
      · skip
        replace H := H.2 c3
        refine g_iload_n 2 17 dX8_years_16 rfl rfl ?_
        refine g_bipush (60) 19 dX8_years_17 rfl rfl ?_
        refine g_icmp_le 28 22 dX8_years_19 rfl rfl (fun c4 => ?_) (fun c4 => ?_)
        · skip
          replace H := H.1 c4
          refine g_aload_n 0 29 dX8_years_28 rfl rfl ?_
          refine g_getR 32 (a0 + 264) dX8_years_29 rfl flX8_39 s0.1 s0.2.2.2.2.2.2.2.2.2.2.2.1 ?_
          refine g_aload_n 0 33 dX8_years_32 rfl rfl ?_
          refine g_getR 36 (a0 + 1) dX8_years_33 rfl flX8_14 s0.1 s0.2.1 ?_
          refine g_getR 39 ((a0 + 1) + 1) dX8_years_36 rfl flX8_102 s0.2.2.1.1 s0.2.2.1.2.1 ?_
          refine g_callV (mc1 := 0) (ms1 := 0) (b := (a0 + 264)) (rest := []) (av := [.ref ((a0 + 1) + 1)]) kX3_copyFrom 42 dX8_years_39 rfl rfl mbX8_192 imX3_copyFrom seX3_copyFrom gcl3.1 s0.2.2.2.2.2.2.2.2.2.2.2.2.1.1 (Nat.le_of_ble_eq_true rfl) (Nat.zero_le _) (Nat.zero_le _) (uX3_copyFrom (N := N) (K := K) s0.2.2.2.2.2.2.2.2.2.2.2.2.1 s0.2.2.1.2.2.1 H (fun M4 jj H => ?_))
          replace H := H (Sm.l jj)
          have j4 : Sm M M4 := jj
          show Go X (d + 6) mc ms kX8_years Q 42 [(0, .ref a0), (1, .int (x1)), (2, .int (x2))] [] M4 0 0
          refine g_iload_n 1 43 dX8_years_42 rfl rfl ?_
          refine g_istore_n 44 [(3, .int (x1)), (0, .ref a0), (1, .int (x1)), (2, .int (x2))] dX8_years_43 rfl (Nat.le_of_ble_eq_true rfl) rfl ?_
          refine g_iconst (0) 45 dX8_years_44 rfl rfl ?_
          refine g_istore 47 [(4, .int (0)), (3, .int (x1)), (0, .ref a0), (1, .int (x1)), (2, .int (x2))] dX8_years_45 rfl (Nat.le_of_ble_eq_true rfl) rfl ?_
          exact g_sub [2, 4, 1, 0] _ rfl (ih.1 M4 a0 x2 x1 0 (Ph.sm j4 s0) H (fun v M1 j r => hR v M1 (Sm.tr j4 j) r))
        · skip
          replace H := H.2 c4
          refine g_aload_n 0 23 dX8_years_22 rfl rfl ?_
          refine g_iconst ((-1)) 24 dX8_years_23 rfl rfl ?_
          refine g_callV (mc1 := 0) (ms1 := 0) (b := a0) (rest := []) (av := [.int ((-1))]) kX8_refuse 27 dX8_years_24 rfl rfl mbX8_146 imX8_refuse seX8_refuse gcl8.1 s0.1 (Nat.le_of_ble_eq_true rfl) (Nat.zero_le _) (Nat.zero_le _) (uX8_refuse (N := N) (K := K) s0 H (fun v4 M5 jj H => ?_))
          replace H := H (Sm.l jj)
          have j5 : Sm M M5 := jj
          show Go X (d + 6) mc ms kX8_years Q 27 [(0, .ref a0), (1, .int (x1)), (2, .int (x2))] [.int (v4)] M5 0 0
          exact g_iret dX8_years_27 rfl (Nat.zero_le _) (Nat.zero_le _) (hR _ _ j5 H)
/-! X8_change -/
def pX8_change (N K : Nat) (M : gM) (a0 : Nat) (x1 : Int32) (x2 : Int32) (R : Int32 → gM → Prop) : Prop := pX0_draft N K M (a0 + 13) ((a0 + 1) + 1) (fun M1 => Sl M M1 → pX8_carryOut N K M1 a0 ((a0 + 1) + 1) x1 x2 (fun v1 M2 => Sl M1 M2 → ((0 ≤ v1 → pX0_keep N K M2 (a0 + 13) x1 (fun M3 => Sl M2 M3 → pX8_accept N K M3 a0 v1 (fun v2 M4 => Sl M3 M4 → R v2 M4))) ∧ (¬ 0 ≤ v1 → pX8_refuse N K M2 a0 v1 (fun v3 M5 => Sl M2 M5 → R v3 M5)))))
set_option maxRecDepth 10000 in
theorem uX8_change {N K : Nat} {X : gX} {d mc ms : Nat} {Q : Option Value → gM → Prop} {M : gM} {a0 : Nat} {x1 : Int32} {x2 : Int32} {R : Int32 → gM → Prop} (s0 : Ph M a0) (H : pX8_change N K M a0 x1 x2 R) (hR : ∀ (v : Int32) (M1 : gM), Sm M M1 → R v M1 → Q (some (.int v)) M1) : Cn X (d + 6) mc ms kX8_change [.ref a0, .int (x1), .int (x2)] M Q := by
  unfold pX8_change at H
  refine g_meth rfl rfl (Nat.le_of_ble_eq_true rfl) rfl ?_
  refine g_aload_n 0 1 dX8_change_0 rfl rfl ?_
  refine g_getR 4 (a0 + 13) dX8_change_1 rfl flX8_25 s0.1 s0.2.2.2.2.2.1 ?_
  refine g_aload_n 0 5 dX8_change_4 rfl rfl ?_
  refine g_getR 8 (a0 + 1) dX8_change_5 rfl flX8_14 s0.1 s0.2.1 ?_
  refine g_getR 11 ((a0 + 1) + 1) dX8_change_8 rfl flX8_102 s0.2.2.1.1 s0.2.2.1.2.1 ?_
  refine g_callV (mc1 := 0) (ms1 := 0) (b := (a0 + 13)) (rest := []) (av := [.ref ((a0 + 1) + 1)]) kX0_draft 14 dX8_change_11 rfl rfl mbX8_341 imX0_draft seX0_draft gcl0.1 s0.2.2.2.2.2.2.1.1 (Nat.le_of_ble_eq_true rfl) (Nat.zero_le _) (Nat.zero_le _) (uX0_draft (N := N) (K := K) s0.2.2.2.2.2.2.1 s0.2.2.1.2.2.1 H (fun M1 jj H => ?_))
  replace H := H (Sm.l jj)
  have j1 : Sm M M1 := jj
  show Go X (d + 6) mc ms kX8_change Q 14 [(0, .ref a0), (1, .int (x1)), (2, .int (x2))] [] M1 0 0
  refine g_aload_n 0 15 dX8_change_14 rfl rfl ?_
  refine g_aload_n 0 16 dX8_change_15 rfl rfl ?_
  refine g_getR 19 (a0 + 1) dX8_change_16 rfl flX8_14 (Sm.k j1 s0.1) (Sm.r j1 s0.2.1) ?_
  refine g_getR 22 ((a0 + 1) + 1) dX8_change_19 rfl flX8_102 (Sm.k j1 s0.2.2.1.1) (Sm.r j1 s0.2.2.1.2.1) ?_
  refine g_iload_n 1 23 dX8_change_22 rfl rfl ?_
  refine g_iload_n 2 24 dX8_change_23 rfl rfl ?_
  refine g_callV (mc1 := 0) (ms1 := 0) (b := a0) (rest := []) (av := [.ref ((a0 + 1) + 1), .int (x1), .int (x2)]) kX8_carryOut 27 dX8_change_24 rfl rfl mbX8_324 imX8_carryOut seX8_carryOut gcl8.1 (Sm.k j1 s0.1) (Nat.le_of_ble_eq_true rfl) (Nat.zero_le _) (Nat.zero_le _) (uX8_carryOut (N := N) (K := K) (Ph.sm j1 s0) (St.sm j1 s0.2.2.1.2.2.1) H (fun v1 M2 jj H => ?_))
  replace H := H (Sm.l jj)
  have j2 : Sm M M2 := Sm.tr j1 jj
  show Go X (d + 6) mc ms kX8_change Q 27 [(0, .ref a0), (1, .int (x1)), (2, .int (x2))] [.int (v1)] M2 0 0
  refine g_istore_n 28 [(3, .int (v1)), (0, .ref a0), (1, .int (x1)), (2, .int (x2))] dX8_change_27 rfl (Nat.le_of_ble_eq_true rfl) rfl ?_
  refine g_iload_n 0 29 dX8_change_28 rfl rfl ?_
  refine g_if_ge 38 32 dX8_change_29 rfl rfl (fun c1 => ?_) (fun c1 => ?_)
  · skip
    replace H := H.1 c1
    refine g_aload_n 1 39 dX8_change_38 rfl rfl ?_
    refine g_getR 42 (a0 + 13) dX8_change_39 rfl flX8_25 (Sm.k j2 s0.1) (Sm.r j2 s0.2.2.2.2.2.1) ?_
    refine g_iload_n 2 43 dX8_change_42 rfl rfl ?_
    refine g_callV (mc1 := 0) (ms1 := 0) (b := (a0 + 13)) (rest := []) (av := [.int (x1)]) kX0_keep 46 dX8_change_43 rfl rfl mbX8_344 imX0_keep seX0_keep gcl0.1 (Sm.k j2 s0.2.2.2.2.2.2.1.1) (Nat.le_of_ble_eq_true rfl) (Nat.zero_le _) (Nat.zero_le _) (uX0_keep (N := N) (K := K) (Hi.sm j2 s0.2.2.2.2.2.2.1) H (fun M3 jj H => ?_))
    replace H := H (Sm.l jj)
    have j3 : Sm M M3 := Sm.tr j2 jj
    show Go X (d + 6) mc ms kX8_change Q 46 [(3, .int (v1)), (0, .ref a0), (1, .int (x1)), (2, .int (x2))] [] M3 0 0
    refine g_aload_n 1 47 dX8_change_46 rfl rfl ?_
    refine g_iload_n 0 48 dX8_change_47 rfl rfl ?_
    refine g_callV (mc1 := 0) (ms1 := 0) (b := a0) (rest := []) (av := [.int (v1)]) kX8_accept 51 dX8_change_48 rfl rfl mbX8_155 imX8_accept seX8_accept gcl8.1 (Sm.k j3 s0.1) (Nat.le_of_ble_eq_true rfl) (Nat.zero_le _) (Nat.zero_le _) (uX8_accept (N := N) (K := K) (Ph.sm j3 s0) H (fun v2 M4 jj H => ?_))
    replace H := H (Sm.l jj)
    have j4 : Sm M M4 := Sm.tr j3 jj
    show Go X (d + 6) mc ms kX8_change Q 51 [(3, .int (v1)), (0, .ref a0), (1, .int (x1)), (2, .int (x2))] [.int (v2)] M4 0 0
    exact g_iret dX8_change_51 rfl (Nat.zero_le _) (Nat.zero_le _) (hR _ _ j4 H)
  · skip
    replace H := H.2 c1
    refine g_aload_n 1 33 dX8_change_32 rfl rfl ?_
    refine g_iload_n 0 34 dX8_change_33 rfl rfl ?_
    refine g_callV (mc1 := 0) (ms1 := 0) (b := a0) (rest := []) (av := [.int (v1)]) kX8_refuse 37 dX8_change_34 rfl rfl mbX8_146 imX8_refuse seX8_refuse gcl8.1 (Sm.k j2 s0.1) (Nat.le_of_ble_eq_true rfl) (Nat.zero_le _) (Nat.zero_le _) (uX8_refuse (N := N) (K := K) (Ph.sm j2 s0) H (fun v3 M5 jj H => ?_))
    replace H := H (Sm.l jj)
    have j5 : Sm M M5 := Sm.tr j2 jj
    show Go X (d + 6) mc ms kX8_change Q 37 [(3, .int (v1)), (0, .ref a0), (1, .int (x1)), (2, .int (x2))] [.int (v3)] M5 0 0
    exact g_iret dX8_change_37 rfl (Nat.zero_le _) (Nat.zero_le _) (hR _ _ j5 H)
/-! X8_add -/
def pX8_add (N K : Nat) (M : gM) (a0 : Nat) (x1 : Int32) (R : Int32 → gM → Prop) : Prop := pX8_change N K M a0 0 x1 (fun v1 M1 => R v1 M1)
set_option maxRecDepth 10000 in
theorem uX8_add {N K : Nat} {X : gX} {d mc ms : Nat} {Q : Option Value → gM → Prop} {M : gM} {a0 : Nat} {x1 : Int32} {R : Int32 → gM → Prop} (s0 : Ph M a0) (H : pX8_add N K M a0 x1 R) (hR : ∀ (v : Int32) (M1 : gM), Sm M M1 → R v M1 → Q (some (.int v)) M1) : Cn X (d + 7) mc ms kX8_add [.ref a0, .int (x1)] M Q := by
  unfold pX8_add at H
  refine g_meth rfl rfl (Nat.le_of_ble_eq_true rfl) rfl ?_
  refine g_aload_n 0 1 dX8_add_0 rfl rfl ?_
  refine g_iconst (0) 2 dX8_add_1 rfl rfl ?_
  refine g_iload_n 1 3 dX8_add_2 rfl rfl ?_
  refine g_callV (mc1 := 0) (ms1 := 0) (b := a0) (rest := []) (av := [.int (0), .int (x1)]) kX8_change 6 dX8_add_3 rfl rfl mbX8_218 imX8_change seX8_change gcl8.1 s0.1 (Nat.le_of_ble_eq_true rfl) (Nat.zero_le _) (Nat.zero_le _) (uX8_change (N := N) (K := K) s0 H (fun v1 M1 jj H => ?_))
  have j1 : Sm M M1 := jj
  show Go X (d + 7) mc ms kX8_add Q 6 [(0, .ref a0), (1, .int (x1))] [.int (v1)] M1 0 0
  exact g_iret dX8_add_6 rfl (Nat.zero_le _) (Nat.zero_le _) (hR _ _ j1 H)
/-! X8_take -/
def pX8_take (N K : Nat) (M : gM) (a0 : Nat) (x1 : Int32) (R : Int32 → gM → Prop) : Prop := pX8_change N K M a0 1 x1 (fun v1 M1 => R v1 M1)
set_option maxRecDepth 10000 in
theorem uX8_take {N K : Nat} {X : gX} {d mc ms : Nat} {Q : Option Value → gM → Prop} {M : gM} {a0 : Nat} {x1 : Int32} {R : Int32 → gM → Prop} (s0 : Ph M a0) (H : pX8_take N K M a0 x1 R) (hR : ∀ (v : Int32) (M1 : gM), Sm M M1 → R v M1 → Q (some (.int v)) M1) : Cn X (d + 7) mc ms kX8_take [.ref a0, .int (x1)] M Q := by
  unfold pX8_take at H
  refine g_meth rfl rfl (Nat.le_of_ble_eq_true rfl) rfl ?_
  refine g_aload_n 0 1 dX8_take_0 rfl rfl ?_
  refine g_iconst (1) 2 dX8_take_1 rfl rfl ?_
  refine g_iload_n 1 3 dX8_take_2 rfl rfl ?_
  refine g_callV (mc1 := 0) (ms1 := 0) (b := a0) (rest := []) (av := [.int (1), .int (x1)]) kX8_change 6 dX8_take_3 rfl rfl mbX8_218 imX8_change seX8_change gcl8.1 s0.1 (Nat.le_of_ble_eq_true rfl) (Nat.zero_le _) (Nat.zero_le _) (uX8_change (N := N) (K := K) s0 H (fun v1 M1 jj H => ?_))
  have j1 : Sm M M1 := jj
  show Go X (d + 7) mc ms kX8_take Q 6 [(0, .ref a0), (1, .int (x1))] [.int (v1)] M1 0 0
  exact g_iret dX8_take_6 rfl (Nat.zero_le _) (Nat.zero_le _) (hR _ _ j1 H)
/-! X8_side -/
def pX8_side (N K : Nat) (M : gM) (a0 : Nat) (x1 : Int32) (R : Int32 → gM → Prop) : Prop := pX8_change N K M a0 2 x1 (fun v1 M1 => R v1 M1)
set_option maxRecDepth 10000 in
theorem uX8_side {N K : Nat} {X : gX} {d mc ms : Nat} {Q : Option Value → gM → Prop} {M : gM} {a0 : Nat} {x1 : Int32} {R : Int32 → gM → Prop} (s0 : Ph M a0) (H : pX8_side N K M a0 x1 R) (hR : ∀ (v : Int32) (M1 : gM), Sm M M1 → R v M1 → Q (some (.int v)) M1) : Cn X (d + 7) mc ms kX8_side [.ref a0, .int (x1)] M Q := by
  unfold pX8_side at H
  refine g_meth rfl rfl (Nat.le_of_ble_eq_true rfl) rfl ?_
  refine g_aload_n 0 1 dX8_side_0 rfl rfl ?_
  refine g_iconst (2) 2 dX8_side_1 rfl rfl ?_
  refine g_iload_n 1 3 dX8_side_2 rfl rfl ?_
  refine g_callV (mc1 := 0) (ms1 := 0) (b := a0) (rest := []) (av := [.int (2), .int (x1)]) kX8_change 6 dX8_side_3 rfl rfl mbX8_218 imX8_change seX8_change gcl8.1 s0.1 (Nat.le_of_ble_eq_true rfl) (Nat.zero_le _) (Nat.zero_le _) (uX8_change (N := N) (K := K) s0 H (fun v1 M1 jj H => ?_))
  have j1 : Sm M M1 := jj
  show Go X (d + 7) mc ms kX8_side Q 6 [(0, .ref a0), (1, .int (x1))] [.int (v1)] M1 0 0
  exact g_iret dX8_side_6 rfl (Nat.zero_le _) (Nat.zero_le _) (hR _ _ j1 H)
/-! X8_seed -/
def pX8_seed (N K : Nat) (M : gM) (a0 : Nat) (x1 : Int32) (R : Int32 → gM → Prop) : Prop := pX8_change N K M a0 3 x1 (fun v1 M1 => R v1 M1)
set_option maxRecDepth 10000 in
theorem uX8_seed {N K : Nat} {X : gX} {d mc ms : Nat} {Q : Option Value → gM → Prop} {M : gM} {a0 : Nat} {x1 : Int32} {R : Int32 → gM → Prop} (s0 : Ph M a0) (H : pX8_seed N K M a0 x1 R) (hR : ∀ (v : Int32) (M1 : gM), Sm M M1 → R v M1 → Q (some (.int v)) M1) : Cn X (d + 7) mc ms kX8_seed [.ref a0, .int (x1)] M Q := by
  unfold pX8_seed at H
  refine g_meth rfl rfl (Nat.le_of_ble_eq_true rfl) rfl ?_
  refine g_aload_n 0 1 dX8_seed_0 rfl rfl ?_
  refine g_iconst (3) 2 dX8_seed_1 rfl rfl ?_
  refine g_iload_n 1 3 dX8_seed_2 rfl rfl ?_
  refine g_callV (mc1 := 0) (ms1 := 0) (b := a0) (rest := []) (av := [.int (3), .int (x1)]) kX8_change 6 dX8_seed_3 rfl rfl mbX8_218 imX8_change seX8_change gcl8.1 s0.1 (Nat.le_of_ble_eq_true rfl) (Nat.zero_le _) (Nat.zero_le _) (uX8_change (N := N) (K := K) s0 H (fun v1 M1 jj H => ?_))
  have j1 : Sm M M1 := jj
  show Go X (d + 7) mc ms kX8_seed Q 6 [(0, .ref a0), (1, .int (x1))] [.int (v1)] M1 0 0
  exact g_iret dX8_seed_6 rfl (Nat.zero_le _) (Nat.zero_le _) (hR _ _ j1 H)
/-! X8_build -/
def pX8_build (N K : Nat) (M : gM) (a0 : Nat) (R : Int32 → gM → Prop) : Prop := pX8_change N K M a0 4 0 (fun v1 M1 => R v1 M1)
set_option maxRecDepth 10000 in
theorem uX8_build {N K : Nat} {X : gX} {d mc ms : Nat} {Q : Option Value → gM → Prop} {M : gM} {a0 : Nat} {R : Int32 → gM → Prop} (s0 : Ph M a0) (H : pX8_build N K M a0 R) (hR : ∀ (v : Int32) (M1 : gM), Sm M M1 → R v M1 → Q (some (.int v)) M1) : Cn X (d + 7) mc ms kX8_build [.ref a0] M Q := by
  unfold pX8_build at H
  refine g_meth rfl rfl (Nat.le_of_ble_eq_true rfl) rfl ?_
  refine g_aload_n 0 1 dX8_build_0 rfl rfl ?_
  refine g_iconst (4) 2 dX8_build_1 rfl rfl ?_
  refine g_iconst (0) 3 dX8_build_2 rfl rfl ?_
  refine g_callV (mc1 := 0) (ms1 := 0) (b := a0) (rest := []) (av := [.int (4), .int (0)]) kX8_change 6 dX8_build_3 rfl rfl mbX8_218 imX8_change seX8_change gcl8.1 s0.1 (Nat.le_of_ble_eq_true rfl) (Nat.zero_le _) (Nat.zero_le _) (uX8_change (N := N) (K := K) s0 H (fun v1 M1 jj H => ?_))
  have j1 : Sm M M1 := jj
  show Go X (d + 7) mc ms kX8_build Q 6 [(0, .ref a0)] [.int (v1)] M1 0 0
  exact g_iret dX8_build_6 rfl (Nat.zero_le _) (Nat.zero_le _) (hR _ _ j1 H)
