/-! group gME -/
def pX9_termOf_121 (N : Nat) (kp : Nat → gM → Nat → Int32 → Int32 → Int64 → (Int32 → Int64 → gM → Prop) → Prop) (R : Int32 → Int64 → gM → Prop) (M : gM) (a0 : Nat) (x1 : Int32) (y2 : Int64) (x4 : Int32) (y5 : Int64) : Prop := ∀ v1 : Int32, v1 = (fX9_sign 42) → ((¬ x4 = v1 → ∀ v2 : Int32, v2 = (fX9_sign 47) → ((¬ x4 = v2 → (¬ (y5 : Int64) = 0) ∧ pX9_bounded N 0 M a0 (l_rm y2 y5) x1 (fun v3 M1 => kp 10 M1 a0 x1 0 v3 R)) ∧ (x4 = v2 → (¬ (y5 : Int64) = 0) ∧ pX9_bounded N 0 M a0 (y2 / y5) x1 (fun v4 M2 => kp 10 M2 a0 x1 0 v4 R)))) ∧ (x4 = v1 → pX9_bounded N 0 M a0 (y2 * y5) x1 (fun v5 M3 => kp 10 M3 a0 x1 0 v5 R)))
def pX9_termOf_54 (N : Nat) (kp : Nat → gM → Nat → Int32 → Int32 → Int64 → (Int32 → Int64 → gM → Prop) → Prop) (R : Int32 → Int64 → gM → Prop) (M : gM) (a0 : Nat) (x1 : Int32) (y2 : Int64) : Prop := (EX9_codeAt M a0 (g_mi M a0 22)) ∧ ∀ v1 : Int32, v1 = (fX9_codeAt M a0 (g_mi M a0 22)) → ∀ M1 : gM, M1 = (g_wi M a0 22 ((g_mi M a0 22) + 1)) → kp 11 M1 a0 x1 0 0 (fun v2 w2 M2 => ∀ v3 : Int32, v3 = (fX9_sign 42) → ((v1 = v3 → pX9_termOf_121 N kp R M2 a0 x1 y2 v1 w2) ∧ (¬ v1 = v3 → ((¬ (lg_cmp w2 0) = 0 → pX9_termOf_121 N kp R M2 a0 x1 y2 v1 w2) ∧ ((lg_cmp w2 0) = 0 → ((¬ (g_mi M2 a0 24) = 0 → ∀ M3 : gM, M3 = (g_wi M2 a0 24 1) → pX9_termOf_121 N kp R M3 a0 x1 y2 v1 1) ∧ ((g_mi M2 a0 24) = 0 → ((x1 = 0 → ∀ M4 : gM, M4 = (g_wi M2 a0 24 0) → pX9_termOf_121 N kp R M4 a0 x1 y2 v1 1) ∧ (¬ x1 = 0 → ∀ M5 : gM, M5 = (g_wi M2 a0 24 1) → pX9_termOf_121 N kp R M5 a0 x1 y2 v1 1)))))))))
def pX9_testOf_0 (N : Nat) (kp : Nat → gM → Nat → Int32 → Int32 → Int64 → (Int32 → Int64 → gM → Prop) → Prop) (R : Int32 → Int64 → gM → Prop) (M : gM) (a0 : Nat) (x1 : Int32) : Prop := kp 2 M a0 x1 0 0 (fun v1 w1 M1 => kp 1 M1 a0 x1 v1 0 R)
def pX9_testOf_6 (N : Nat) (kp : Nat → gM → Nat → Int32 → Int32 → Int64 → (Int32 → Int64 → gM → Prop) → Prop) (R : Int32 → Int64 → gM → Prop) (M : gM) (a0 : Nat) (x1 : Int32) (x2 : Int32) : Prop := pX9_passes0 N 0 M a0 4 (fun v1 M1 => ((v1 = 0 → (x2 = 0 ∨ x2 = 1) ∧ R x2 0 M1) ∧ (¬ v1 = 0 → ((x1 = 0 → kp 2 M1 a0 0 0 0 (fun v2 w2 M2 => ((¬ x2 = 0 → kp 1 M2 a0 x1 1 0 R) ∧ (x2 = 0 → ((v2 = 0 → kp 1 M2 a0 x1 0 0 R) ∧ (¬ v2 = 0 → kp 1 M2 a0 x1 1 0 R)))))) ∧ (¬ x1 = 0 → ((¬ x2 = 0 → kp 2 M1 a0 0 0 0 (fun v3 w3 M3 => kp 1 M3 a0 x1 1 0 R)) ∧ (x2 = 0 → kp 2 M1 a0 1 0 0 (fun v4 w4 M4 => ((v4 = 0 → kp 1 M4 a0 x1 0 0 R) ∧ (¬ v4 = 0 → kp 1 M4 a0 x1 1 0 R))))))))))
def pX9_bothOf_0 (N : Nat) (kp : Nat → gM → Nat → Int32 → Int32 → Int64 → (Int32 → Int64 → gM → Prop) → Prop) (R : Int32 → Int64 → gM → Prop) (M : gM) (a0 : Nat) (x1 : Int32) : Prop := kp 4 M a0 x1 0 0 (fun v1 w1 M1 => kp 3 M1 a0 x1 v1 0 R)
def pX9_bothOf_6 (N : Nat) (kp : Nat → gM → Nat → Int32 → Int32 → Int64 → (Int32 → Int64 → gM → Prop) → Prop) (R : Int32 → Int64 → gM → Prop) (M : gM) (a0 : Nat) (x1 : Int32) (x2 : Int32) : Prop := pX9_passes0 N 0 M a0 5 (fun v1 M1 => ((v1 = 0 → (x2 = 0 ∨ x2 = 1) ∧ R x2 0 M1) ∧ (¬ v1 = 0 → ((x1 = 0 → kp 4 M1 a0 0 0 0 (fun v2 w2 M2 => ((x2 = 0 → kp 3 M2 a0 x1 0 0 R) ∧ (¬ x2 = 0 → ((v2 = 0 → kp 3 M2 a0 x1 0 0 R) ∧ (¬ v2 = 0 → kp 3 M2 a0 x1 1 0 R)))))) ∧ (¬ x1 = 0 → ((x2 = 0 → kp 4 M1 a0 0 0 0 (fun v3 w3 M3 => kp 3 M3 a0 x1 0 0 R)) ∧ (¬ x2 = 0 → kp 4 M1 a0 1 0 0 (fun v4 w4 M4 => ((v4 = 0 → kp 3 M4 a0 x1 0 0 R) ∧ (¬ v4 = 0 → kp 3 M4 a0 x1 1 0 R))))))))))
def pX9_plainOf_0 (N : Nat) (kp : Nat → gM → Nat → Int32 → Int32 → Int64 → (Int32 → Int64 → gM → Prop) → Prop) (R : Int32 → Int64 → gM → Prop) (M : gM) (a0 : Nat) (x1 : Int32) : Prop := kp 5 M a0 x1 0 0 R
def pX9_plainOf_2 (N : Nat) (kp : Nat → gM → Nat → Int32 → Int32 → Int64 → (Int32 → Int64 → gM → Prop) → Prop) (R : Int32 → Int64 → gM → Prop) (M : gM) (a0 : Nat) (x1 : Int32) (x2 : Int32) : Prop := pX9_passes0 N 0 M a0 6 (fun v1 M1 => ((v1 = 0 → kp 6 M1 a0 x1 0 0 (fun v2 w2 M2 => ((v2 = x2 → R 0 0 M2) ∧ (¬ v2 = x2 → R 1 0 M2)))) ∧ (¬ v1 = 0 → ((¬ x2 = 0 → kp 5 M1 a0 x1 0 0 R) ∧ (x2 = 0 → kp 5 M1 a0 x1 1 0 R)))))
def pX9_positiveOf_0 (N : Nat) (kp : Nat → gM → Nat → Int32 → Int32 → Int64 → (Int32 → Int64 → gM → Prop) → Prop) (R : Int32 → Int64 → gM → Prop) (M : gM) (a0 : Nat) (x1 : Int32) : Prop := ∀ v1 : Int32, v1 = (fX9_sign 40) → pX9_passes0 N 0 M a0 v1 (fun v2 M1 => ((v2 = 0 → kp 7 M1 a0 x1 0 0 (fun v3 w3 M2 => (EX9_codeAt M2 a0 (g_mi M2 a0 22)) ∧ ∀ v4 : Int32, v4 = (fX9_codeAt M2 a0 (g_mi M2 a0 22)) → ∀ M3 : gM, M3 = (g_wi M2 a0 22 ((g_mi M2 a0 22) + 1)) → kp 7 M3 a0 x1 0 0 (fun v5 w5 M4 => ((x1 = 0 → R 0 0 M4) ∧ (¬ x1 = 0 → ((¬ (g_mi M4 a0 24) = 0 → R 0 0 M4) ∧ ((g_mi M4 a0 24) = 0 → ∀ v6 : Int32, v6 = (fX9_sign 60) → ((¬ v4 = v6 → ∀ v7 : Int32, v7 = (fX9_sign 62) → ((¬ v4 = v7 → ((¬ (lg_cmp w3 w5) = 0 → R 0 0 M4) ∧ ((lg_cmp w3 w5) = 0 → R 1 0 M4))) ∧ (v4 = v7 → (((lg_cmp w3 w5) ≤ 0 → R 0 0 M4) ∧ (¬ (lg_cmp w3 w5) ≤ 0 → R 1 0 M4))))) ∧ (v4 = v6 → ((0 ≤ (lg_cmp w3 w5) → R 0 0 M4) ∧ (¬ 0 ≤ (lg_cmp w3 w5) → R 1 0 M4))))))))))) ∧ (¬ v2 = 0 → kp 0 M1 a0 x1 0 0 (fun v8 w8 M5 => ∀ M6 : gM, M6 = (g_wi M5 a0 22 ((g_mi M5 a0 22) + 1)) → (v8 = 0 ∨ v8 = 1) ∧ R v8 0 M6))))
def pX9_sumOf_0 (N : Nat) (kp : Nat → gM → Nat → Int32 → Int32 → Int64 → (Int32 → Int64 → gM → Prop) → Prop) (R : Int32 → Int64 → gM → Prop) (M : gM) (a0 : Nat) (x1 : Int32) : Prop := kp 9 M a0 x1 0 0 (fun v1 w1 M1 => kp 8 M1 a0 x1 0 w1 R)
def pX9_sumOf_6 (N : Nat) (kp : Nat → gM → Nat → Int32 → Int32 → Int64 → (Int32 → Int64 → gM → Prop) → Prop) (R : Int32 → Int64 → gM → Prop) (M : gM) (a0 : Nat) (x1 : Int32) (y2 : Int64) : Prop := (EX9_codeAt M a0 (g_mi M a0 22)) ∧ ∀ v1 : Int32, v1 = (fX9_codeAt M a0 (g_mi M a0 22)) → ∀ v2 : Int32, v2 = (fX9_sign 43) → ((v1 = v2 → ∀ v3 : Int32, v3 = (fX9_codeAt M a0 (g_mi M a0 22)) → ∀ v4 : Int32, v4 = (fX9_sign 43) → ((¬ v3 = v4 → ∀ M1 : gM, M1 = (g_wi M a0 22 ((g_mi M a0 22) + 1)) → kp 9 M1 a0 x1 0 0 (fun v5 w5 M2 => pX9_bounded N 0 M2 a0 (y2 - w5) x1 (fun v6 M3 => kp 8 M3 a0 x1 0 v6 R))) ∧ (v3 = v4 → ∀ M4 : gM, M4 = (g_wi M a0 22 ((g_mi M a0 22) + 1)) → kp 9 M4 a0 x1 0 0 (fun v7 w7 M5 => pX9_bounded N 0 M5 a0 (y2 + w7) x1 (fun v8 M6 => kp 8 M6 a0 x1 0 v8 R))))) ∧ (¬ v1 = v2 → ∀ v9 : Int32, v9 = (fX9_codeAt M a0 (g_mi M a0 22)) → ∀ v10 : Int32, v10 = (fX9_sign 45) → ((¬ v9 = v10 → R 0 y2 M) ∧ (v9 = v10 → ∀ v11 : Int32, v11 = (fX9_codeAt M a0 (g_mi M a0 22)) → ∀ v12 : Int32, v12 = (fX9_sign 43) → ((¬ v11 = v12 → ∀ M7 : gM, M7 = (g_wi M a0 22 ((g_mi M a0 22) + 1)) → kp 9 M7 a0 x1 0 0 (fun v13 w13 M8 => pX9_bounded N 0 M8 a0 (y2 - w13) x1 (fun v14 M9 => kp 8 M9 a0 x1 0 v14 R))) ∧ (v11 = v12 → ∀ M10 : gM, M10 = (g_wi M a0 22 ((g_mi M a0 22) + 1)) → kp 9 M10 a0 x1 0 0 (fun v15 w15 M11 => pX9_bounded N 0 M11 a0 (y2 + w15) x1 (fun v16 M12 => kp 8 M12 a0 x1 0 v16 R))))))))
def pX9_termOf_0 (N : Nat) (kp : Nat → gM → Nat → Int32 → Int32 → Int64 → (Int32 → Int64 → gM → Prop) → Prop) (R : Int32 → Int64 → gM → Prop) (M : gM) (a0 : Nat) (x1 : Int32) : Prop := kp 11 M a0 x1 0 0 (fun v1 w1 M1 => kp 10 M1 a0 x1 0 w1 R)
def pX9_termOf_6 (N : Nat) (kp : Nat → gM → Nat → Int32 → Int32 → Int64 → (Int32 → Int64 → gM → Prop) → Prop) (R : Int32 → Int64 → gM → Prop) (M : gM) (a0 : Nat) (x1 : Int32) (y2 : Int64) : Prop := (EX9_codeAt M a0 (g_mi M a0 22)) ∧ ∀ v1 : Int32, v1 = (fX9_codeAt M a0 (g_mi M a0 22)) → ∀ v2 : Int32, v2 = (fX9_sign 42) → ((v1 = v2 → pX9_termOf_54 N kp R M a0 x1 y2) ∧ (¬ v1 = v2 → ∀ v3 : Int32, v3 = (fX9_codeAt M a0 (g_mi M a0 22)) → ∀ v4 : Int32, v4 = (fX9_sign 47) → ((v3 = v4 → pX9_termOf_54 N kp R M a0 x1 y2) ∧ (¬ v3 = v4 → ∀ v5 : Int32, v5 = (fX9_codeAt M a0 (g_mi M a0 22)) → ∀ v6 : Int32, v6 = (fX9_sign 37) → ((¬ v5 = v6 → R 0 y2 M) ∧ (v5 = v6 → pX9_termOf_54 N kp R M a0 x1 y2))))))
def pX9_partOf_0 (N : Nat) (kp : Nat → gM → Nat → Int32 → Int32 → Int64 → (Int32 → Int64 → gM → Prop) → Prop) (R : Int32 → Int64 → gM → Prop) (M : gM) (a0 : Nat) (x1 : Int32) : Prop := ∀ v1 : Int32, v1 = (fX9_sign 91) → pX9_passes0 N 0 M a0 v1 (fun v2 M1 => ((v2 = 0 → (EX9_codeAt M1 a0 (g_mi M1 a0 22)) ∧ ∀ v3 : Int32, v3 = (fX9_codeAt M1 a0 (g_mi M1 a0 22)) → ∀ M2 : gM, M2 = (g_wi M1 a0 22 ((g_mi M1 a0 22) + 1)) → (((g_mi M2 a0 25) = 0 → ((x1 = 0 → R 0 0 M2) ∧ (¬ x1 = 0 → (((g_mi M2 a0 24) = 0 → ((¬ v3 = 50 → (vp_in ((v3 - 7)) 7) ∧ R 0 (((g_mi M2 (a0 + 12) ((v3 - 7)).toNatClampNeg) : Int32).toInt64) M2) ∧ (v3 = 50 → (vp_in (((3012 + (g_mi M2 a0 22)) - 1)) 5812) ∧ R 0 (((g_mi M2 (a0 + 2) (((3012 + (g_mi M2 a0 22)) - 1)).toNatClampNeg) : Int32).toInt64) M2))) ∧ (¬ (g_mi M2 a0 24) = 0 → R 0 0 M2))))) ∧ (¬ (g_mi M2 a0 25) = 0 → ((v3 = 12 → (vp_in ((3012 + (g_mi M2 a0 22))) 5812) ∧ ∀ M3 : gM, M3 = (g_wi M2 a0 22 ((g_mi M2 a0 22) + 1)) → ((x1 = 0 → R 0 0 M3) ∧ (¬ x1 = 0 → (((g_mi M3 a0 24) = 0 → (((g_mi M3 a0 25) = 0 → (vp_in ((v3 - 7)) 7) ∧ R 0 (((g_mi M3 (a0 + 12) ((v3 - 7)).toNatClampNeg) : Int32).toInt64) M3) ∧ (¬ (g_mi M3 a0 25) = 0 → pX9_orderValue N 0 M3 a0 v3 (g_mi M2 (a0 + 2) ((3012 + (g_mi M2 a0 22))).toNatClampNeg) (fun v4 => R 0 ((v4 : Int32).toInt64) M3)))) ∧ (¬ (g_mi M3 a0 24) = 0 → R 0 0 M3))))) ∧ (¬ v3 = 12 → ((¬ v3 = 17 → ((x1 = 0 → R 0 0 M2) ∧ (¬ x1 = 0 → (((g_mi M2 a0 24) = 0 → ((¬ v3 = 50 → pX9_orderValue N 0 M2 a0 v3 0 (fun v5 => R 0 ((v5 : Int32).toInt64) M2)) ∧ (v3 = 50 → (vp_in (((3012 + (g_mi M2 a0 22)) - 1)) 5812) ∧ R 0 (((g_mi M2 (a0 + 2) (((3012 + (g_mi M2 a0 22)) - 1)).toNatClampNeg) : Int32).toInt64) M2))) ∧ (¬ (g_mi M2 a0 24) = 0 → R 0 0 M2))))) ∧ (v3 = 17 → (vp_in ((3012 + (g_mi M2 a0 22))) 5812) ∧ ∀ M4 : gM, M4 = (g_wi M2 a0 22 ((g_mi M2 a0 22) + 1)) → ((x1 = 0 → R 0 0 M4) ∧ (¬ x1 = 0 → (((g_mi M4 a0 24) = 0 → (((g_mi M4 a0 25) = 0 → (vp_in ((v3 - 7)) 7) ∧ R 0 (((g_mi M4 (a0 + 12) ((v3 - 7)).toNatClampNeg) : Int32).toInt64) M4) ∧ (¬ (g_mi M4 a0 25) = 0 → pX9_orderValue N 0 M4 a0 v3 (g_mi M2 (a0 + 2) ((3012 + (g_mi M2 a0 22))).toNatClampNeg) (fun v6 => R 0 ((v6 : Int32).toInt64) M4)))) ∧ (¬ (g_mi M4 a0 24) = 0 → R 0 0 M4))))))))))) ∧ (¬ v2 = 0 → kp 7 M1 a0 x1 0 0 (fun v7 w7 M5 => ∀ M6 : gM, M6 = (g_wi M5 a0 22 ((g_mi M5 a0 22) + 1)) → R 0 w7 M6))))
def qgME (N : Nat) : Nat → Nat → gM → Nat → Int32 → Int32 → Int64 → (Int32 → Int64 → gM → Prop) → Prop
  | 0, _, _, _, _, _, _, _ => False
  | n + 1, h, M, a0, x1, x2, y2, R => if h = 0 then pX9_testOf_0 N (qgME N n) R M a0 x1 else if h = 1 then pX9_testOf_6 N (qgME N n) R M a0 x1 x2 else if h = 2 then pX9_bothOf_0 N (qgME N n) R M a0 x1 else if h = 3 then pX9_bothOf_6 N (qgME N n) R M a0 x1 x2 else if h = 4 then pX9_plainOf_0 N (qgME N n) R M a0 x1 else if h = 5 then pX9_plainOf_2 N (qgME N n) R M a0 x1 x2 else if h = 6 then pX9_positiveOf_0 N (qgME N n) R M a0 x1 else if h = 7 then pX9_sumOf_0 N (qgME N n) R M a0 x1 else if h = 8 then pX9_sumOf_6 N (qgME N n) R M a0 x1 y2 else if h = 9 then pX9_termOf_0 N (qgME N n) R M a0 x1 else if h = 10 then pX9_termOf_6 N (qgME N n) R M a0 x1 y2 else pX9_partOf_0 N (qgME N n) R M a0 x1
def UX9_testOf_0 (X : gX) (N : Nat) (n : Nat) : Prop := ∀ (d D mc ms : Nat) (Q : Option Value → gM → Prop) (M : gM) (a0 : Nat) (x1 : Int32) (x2 : Int32) (y2 : Int64) (R : Int32 → Int64 → gM → Prop), D = d + n + 6 → Mo M a0 → qgME N n 0 M a0 x1 x2 y2 R → (∀ (v : Int32) (w : Int64) (M1 : gM), Sm M M1 → R v w M1 → Q (some (.int v)) M1) → Cn X D mc ms kX9_testOf [.ref a0, .int (x1)] M Q
def UX9_testOf_6 (X : gX) (N : Nat) (n : Nat) : Prop := ∀ (d D mc ms : Nat) (Q : Option Value → gM → Prop) (M : gM) (a0 : Nat) (x1 : Int32) (x2 : Int32) (y2 : Int64) (R : Int32 → Int64 → gM → Prop), D = d + n + 6 → Mo M a0 → qgME N n 1 M a0 x1 x2 y2 R → (∀ (v : Int32) (w : Int64) (M1 : gM), Sm M M1 → R v w M1 → Q (some (.int v)) M1) → Go X D mc ms kX9_testOf Q 6 [(0, .ref a0), (1, .int (x1)), (2, .int (x2))] [] M 0 0
def UX9_bothOf_0 (X : gX) (N : Nat) (n : Nat) : Prop := ∀ (d D mc ms : Nat) (Q : Option Value → gM → Prop) (M : gM) (a0 : Nat) (x1 : Int32) (x2 : Int32) (y2 : Int64) (R : Int32 → Int64 → gM → Prop), D = d + n + 6 → Mo M a0 → qgME N n 2 M a0 x1 x2 y2 R → (∀ (v : Int32) (w : Int64) (M1 : gM), Sm M M1 → R v w M1 → Q (some (.int v)) M1) → Cn X D mc ms kX9_bothOf [.ref a0, .int (x1)] M Q
def UX9_bothOf_6 (X : gX) (N : Nat) (n : Nat) : Prop := ∀ (d D mc ms : Nat) (Q : Option Value → gM → Prop) (M : gM) (a0 : Nat) (x1 : Int32) (x2 : Int32) (y2 : Int64) (R : Int32 → Int64 → gM → Prop), D = d + n + 6 → Mo M a0 → qgME N n 3 M a0 x1 x2 y2 R → (∀ (v : Int32) (w : Int64) (M1 : gM), Sm M M1 → R v w M1 → Q (some (.int v)) M1) → Go X D mc ms kX9_bothOf Q 6 [(0, .ref a0), (1, .int (x1)), (2, .int (x2))] [] M 0 0
def UX9_plainOf_0 (X : gX) (N : Nat) (n : Nat) : Prop := ∀ (d D mc ms : Nat) (Q : Option Value → gM → Prop) (M : gM) (a0 : Nat) (x1 : Int32) (x2 : Int32) (y2 : Int64) (R : Int32 → Int64 → gM → Prop), D = d + n + 6 → Mo M a0 → qgME N n 4 M a0 x1 x2 y2 R → (∀ (v : Int32) (w : Int64) (M1 : gM), Sm M M1 → R v w M1 → Q (some (.int v)) M1) → Cn X D mc ms kX9_plainOf [.ref a0, .int (x1)] M Q
def UX9_plainOf_2 (X : gX) (N : Nat) (n : Nat) : Prop := ∀ (d D mc ms : Nat) (Q : Option Value → gM → Prop) (M : gM) (a0 : Nat) (x1 : Int32) (x2 : Int32) (y2 : Int64) (R : Int32 → Int64 → gM → Prop), D = d + n + 6 → Mo M a0 → qgME N n 5 M a0 x1 x2 y2 R → (∀ (v : Int32) (w : Int64) (M1 : gM), Sm M M1 → R v w M1 → Q (some (.int v)) M1) → Go X D mc ms kX9_plainOf Q 2 [(0, .ref a0), (1, .int (x1)), (2, .int (x2))] [] M 0 0
def UX9_positiveOf_0 (X : gX) (N : Nat) (n : Nat) : Prop := ∀ (d D mc ms : Nat) (Q : Option Value → gM → Prop) (M : gM) (a0 : Nat) (x1 : Int32) (x2 : Int32) (y2 : Int64) (R : Int32 → Int64 → gM → Prop), D = d + n + 6 → Mo M a0 → qgME N n 6 M a0 x1 x2 y2 R → (∀ (v : Int32) (w : Int64) (M1 : gM), Sm M M1 → R v w M1 → Q (some (.int v)) M1) → Cn X D mc ms kX9_positiveOf [.ref a0, .int (x1)] M Q
def UX9_sumOf_0 (X : gX) (N : Nat) (n : Nat) : Prop := ∀ (d D mc ms : Nat) (Q : Option Value → gM → Prop) (M : gM) (a0 : Nat) (x1 : Int32) (x2 : Int32) (y2 : Int64) (R : Int32 → Int64 → gM → Prop), D = d + n + 6 → Mo M a0 → qgME N n 7 M a0 x1 x2 y2 R → (∀ (v : Int32) (w : Int64) (M1 : gM), Sm M M1 → R v w M1 → Q (some (.long w)) M1) → Cn X D mc ms kX9_sumOf [.ref a0, .int (x1)] M Q
def UX9_sumOf_6 (X : gX) (N : Nat) (n : Nat) : Prop := ∀ (d D mc ms : Nat) (Q : Option Value → gM → Prop) (M : gM) (a0 : Nat) (x1 : Int32) (x2 : Int32) (y2 : Int64) (R : Int32 → Int64 → gM → Prop), D = d + n + 6 → Mo M a0 → qgME N n 8 M a0 x1 x2 y2 R → (∀ (v : Int32) (w : Int64) (M1 : gM), Sm M M1 → R v w M1 → Q (some (.long w)) M1) → Go X D mc ms kX9_sumOf Q 6 [(0, .ref a0), (1, .int (x1)), (2, .long (y2))] [] M 0 0
def UX9_termOf_0 (X : gX) (N : Nat) (n : Nat) : Prop := ∀ (d D mc ms : Nat) (Q : Option Value → gM → Prop) (M : gM) (a0 : Nat) (x1 : Int32) (x2 : Int32) (y2 : Int64) (R : Int32 → Int64 → gM → Prop), D = d + n + 6 → Mo M a0 → qgME N n 9 M a0 x1 x2 y2 R → (∀ (v : Int32) (w : Int64) (M1 : gM), Sm M M1 → R v w M1 → Q (some (.long w)) M1) → Cn X D mc ms kX9_termOf [.ref a0, .int (x1)] M Q
def UX9_termOf_6 (X : gX) (N : Nat) (n : Nat) : Prop := ∀ (d D mc ms : Nat) (Q : Option Value → gM → Prop) (M : gM) (a0 : Nat) (x1 : Int32) (x2 : Int32) (y2 : Int64) (R : Int32 → Int64 → gM → Prop), D = d + n + 6 → Mo M a0 → qgME N n 10 M a0 x1 x2 y2 R → (∀ (v : Int32) (w : Int64) (M1 : gM), Sm M M1 → R v w M1 → Q (some (.long w)) M1) → Go X D mc ms kX9_termOf Q 6 [(0, .ref a0), (1, .int (x1)), (2, .long (y2))] [] M 0 0
def UX9_partOf_0 (X : gX) (N : Nat) (n : Nat) : Prop := ∀ (d D mc ms : Nat) (Q : Option Value → gM → Prop) (M : gM) (a0 : Nat) (x1 : Int32) (x2 : Int32) (y2 : Int64) (R : Int32 → Int64 → gM → Prop), D = d + n + 6 → Mo M a0 → qgME N n 11 M a0 x1 x2 y2 R → (∀ (v : Int32) (w : Int64) (M1 : gM), Sm M M1 → R v w M1 → Q (some (.long w)) M1) → Cn X D mc ms kX9_partOf [.ref a0, .int (x1)] M Q
def UgME (X : gX) (N : Nat) (n : Nat) : Prop := UX9_testOf_0 X N n ∧ UX9_testOf_6 X N n ∧ UX9_bothOf_0 X N n ∧ UX9_bothOf_6 X N n ∧ UX9_plainOf_0 X N n ∧ UX9_plainOf_2 X N n ∧ UX9_positiveOf_0 X N n ∧ UX9_sumOf_0 X N n ∧ UX9_sumOf_6 X N n ∧ UX9_termOf_0 X N n ∧ UX9_termOf_6 X N n ∧ UX9_partOf_0 X N n
set_option maxRecDepth 10000 in
theorem uxX9_termOf_121 {X : gX} {N : Nat} {n : Nat} (ih : UgME X N n) {d mc ms : Nat} {Q : Option Value → gM → Prop} {M : gM} {a0 : Nat} {x1 : Int32} {y2 : Int64} {x4 : Int32} {y5 : Int64} {R : Int32 → Int64 → gM → Prop} (s0 : Mo M a0) (H : pX9_termOf_121 N (qgME N n) R M a0 x1 y2 x4 y5) (hR : ∀ (v : Int32) (w : Int64) (M1 : gM), Sm M M1 → R v w M1 → Q (some (.long w)) M1) : Go X (d + (n + 1) + 6) mc ms kX9_termOf Q 121 [(0, .ref a0), (1, .int (x1)), (2, .long (y2)), (4, .int (x4)), (5, .long (y5))] [] M 0 0 := by
  unfold pX9_termOf_121 at H
  refine g_aload_n 0 122 dX9_termOf_121 rfl rfl ?_
  refine g_iload 3 124 dX9_termOf_122 rfl rfl ?_
  refine g_bipush (42) 126 dX9_termOf_124 rfl rfl ?_
  refine g_callS (mc1 := 0) (ms1 := 0) (rest := [.int (x4), .ref a0]) (av := [.int (42)]) kX9_sign 129 dX9_termOf_126 rfl rfl mbX9_228 smX9_sign (Nat.le_of_ble_eq_true rfl) (Nat.zero_le _) (Nat.zero_le _) (tX9_sign  ?_)
  show Go X (d + (n + 1) + 6) mc ms kX9_termOf Q 129 [(0, .ref a0), (1, .int (x1)), (2, .long (y2)), (4, .int (x4)), (5, .long (y5))] [.int ((fX9_sign 42)), .int (x4), .ref a0] M 0 0
  generalize hv1 : (fX9_sign 42) = v1
  replace H := H v1 hv1.symm
  refine g_icmp_ne 139 132 dX9_termOf_129 rfl rfl (fun c1 => ?_) (fun c1 => ?_)
  · skip
    replace H := H.1 c1
    refine g_iload 3 141 dX9_termOf_139 rfl rfl ?_
    refine g_bipush (47) 143 dX9_termOf_141 rfl rfl ?_
    refine g_callS (mc1 := 0) (ms1 := 0) (rest := [.int (x4), .ref a0]) (av := [.int (47)]) kX9_sign 146 dX9_termOf_143 rfl rfl mbX9_228 smX9_sign (Nat.le_of_ble_eq_true rfl) (Nat.zero_le _) (Nat.zero_le _) (tX9_sign  ?_)
    show Go X (d + (n + 1) + 6) mc ms kX9_termOf Q 146 [(0, .ref a0), (1, .int (x1)), (2, .long (y2)), (4, .int (x4)), (5, .long (y5))] [.int ((fX9_sign 47)), .int (x4), .ref a0] M 0 0
    generalize hv2 : (fX9_sign 47) = v2
    replace H := H v2 hv2.symm
    refine g_icmp_ne 156 149 dX9_termOf_146 rfl rfl (fun c2 => ?_) (fun c2 => ?_)
    · skip
      replace H := H.1 c2
      refine g_lload_n 2 157 dX9_termOf_156 rfl rfl ?_
      refine g_lload 4 159 dX9_termOf_157 rfl rfl ?_
      obtain ⟨b1, H⟩ := H
      refine h_lrem 160 dX9_termOf_159 rfl b1 ?_
      refine g_iload_n 1 161 dX9_termOf_160 rfl rfl ?_
      refine g_callV (mc1 := 0) (ms1 := 0) (b := a0) (rest := []) (av := [.long ((l_rm y2 y5)), .int (x1)]) kX9_bounded 164 dX9_termOf_161 rfl rfl mbX9_286 imX9_bounded seX9_bounded gcl9.1 s0.1 (Nat.le_of_ble_eq_true rfl) (Nat.zero_le _) (Nat.zero_le _) (uX9_bounded (N := N) (K := 0) s0 H (fun v3 M1 jj H => ?_))
      have j1 : Sm M M1 := jj
      show Go X (d + (n + 1) + 6) mc ms kX9_termOf Q 164 [(0, .ref a0), (1, .int (x1)), (2, .long (y2)), (4, .int (x4)), (5, .long (y5))] [.long (v3)] M1 0 0
      refine g_lstore_n 165 [(2, .long (v3)), (0, .ref a0), (1, .int (x1)), (4, .int (x4)), (5, .long (y5))] dX9_termOf_164 rfl (Nat.le_of_ble_eq_true rfl) rfl ?_
      refine g_goto 6 dX9_termOf_165 rfl ?_
      exact g_sub [1, 2, 0] _ rfl ((ih.2.2.2.2.2.2.2.2.2.2.1) (d + 1) _ _ _ _ M1 a0 x1 0 v3 _ (by omega) (Mo.sm j1 s0) H (fun v w M1 j r => hR v w M1 (Sm.tr j1 j) r))
    · skip
      replace H := H.2 c2
      refine g_lload_n 2 150 dX9_termOf_149 rfl rfl ?_
      refine g_lload 4 152 dX9_termOf_150 rfl rfl ?_
      obtain ⟨b2, H⟩ := H
      refine g_ldiv 153 dX9_termOf_152 rfl b2 ?_
      refine g_goto 160 dX9_termOf_153 rfl ?_
      refine g_iload_n 1 161 dX9_termOf_160 rfl rfl ?_
      refine g_callV (mc1 := 0) (ms1 := 0) (b := a0) (rest := []) (av := [.long ((y2 / y5)), .int (x1)]) kX9_bounded 164 dX9_termOf_161 rfl rfl mbX9_286 imX9_bounded seX9_bounded gcl9.1 s0.1 (Nat.le_of_ble_eq_true rfl) (Nat.zero_le _) (Nat.zero_le _) (uX9_bounded (N := N) (K := 0) s0 H (fun v4 M2 jj H => ?_))
      have j2 : Sm M M2 := jj
      show Go X (d + (n + 1) + 6) mc ms kX9_termOf Q 164 [(0, .ref a0), (1, .int (x1)), (2, .long (y2)), (4, .int (x4)), (5, .long (y5))] [.long (v4)] M2 0 0
      refine g_lstore_n 165 [(2, .long (v4)), (0, .ref a0), (1, .int (x1)), (4, .int (x4)), (5, .long (y5))] dX9_termOf_164 rfl (Nat.le_of_ble_eq_true rfl) rfl ?_
      refine g_goto 6 dX9_termOf_165 rfl ?_
      exact g_sub [1, 2, 0] _ rfl ((ih.2.2.2.2.2.2.2.2.2.2.1) (d + 1) _ _ _ _ M2 a0 x1 0 v4 _ (by omega) (Mo.sm j2 s0) H (fun v w M1 j r => hR v w M1 (Sm.tr j2 j) r))
  · skip
    replace H := H.2 c1
    refine g_lload_n 2 133 dX9_termOf_132 rfl rfl ?_
    refine g_lload 4 135 dX9_termOf_133 rfl rfl ?_
    refine g_lmul 136 dX9_termOf_135 rfl ?_
    refine g_goto 160 dX9_termOf_136 rfl ?_
    refine g_iload_n 1 161 dX9_termOf_160 rfl rfl ?_
    refine g_callV (mc1 := 0) (ms1 := 0) (b := a0) (rest := []) (av := [.long ((y2 * y5)), .int (x1)]) kX9_bounded 164 dX9_termOf_161 rfl rfl mbX9_286 imX9_bounded seX9_bounded gcl9.1 s0.1 (Nat.le_of_ble_eq_true rfl) (Nat.zero_le _) (Nat.zero_le _) (uX9_bounded (N := N) (K := 0) s0 H (fun v5 M3 jj H => ?_))
    have j3 : Sm M M3 := jj
    show Go X (d + (n + 1) + 6) mc ms kX9_termOf Q 164 [(0, .ref a0), (1, .int (x1)), (2, .long (y2)), (4, .int (x4)), (5, .long (y5))] [.long (v5)] M3 0 0
    refine g_lstore_n 165 [(2, .long (v5)), (0, .ref a0), (1, .int (x1)), (4, .int (x4)), (5, .long (y5))] dX9_termOf_164 rfl (Nat.le_of_ble_eq_true rfl) rfl ?_
    refine g_goto 6 dX9_termOf_165 rfl ?_
    exact g_sub [1, 2, 0] _ rfl ((ih.2.2.2.2.2.2.2.2.2.2.1) (d + 1) _ _ _ _ M3 a0 x1 0 v5 _ (by omega) (Mo.sm j3 s0) H (fun v w M1 j r => hR v w M1 (Sm.tr j3 j) r))
set_option maxRecDepth 10000 in
theorem uxX9_termOf_54 {X : gX} {N : Nat} {n : Nat} (ih : UgME X N n) {d mc ms : Nat} {Q : Option Value → gM → Prop} {M : gM} {a0 : Nat} {x1 : Int32} {y2 : Int64} {R : Int32 → Int64 → gM → Prop} (s0 : Mo M a0) (H : pX9_termOf_54 N (qgME N n) R M a0 x1 y2) (hR : ∀ (v : Int32) (w : Int64) (M1 : gM), Sm M M1 → R v w M1 → Q (some (.long w)) M1) : Go X (d + (n + 1) + 6) mc ms kX9_termOf Q 54 [(0, .ref a0), (1, .int (x1)), (2, .long (y2))] [] M 0 0 := by
  unfold pX9_termOf_54 at H
  refine g_aload_n 0 55 dX9_termOf_54 rfl rfl ?_
  refine g_aload_n 0 56 dX9_termOf_55 rfl rfl ?_
  refine g_getI 59 dX9_termOf_56 rfl flX9_269 s0.1 ?_
  obtain ⟨b1, H⟩ := H
  refine g_callV (mc1 := 0) (ms1 := 0) (b := a0) (rest := []) (av := [.int ((g_mi M a0 22))]) kX9_codeAt 62 dX9_termOf_59 rfl rfl mbX9_272 imX9_codeAt seX9_codeAt gcl9.1 s0.1 (Nat.le_of_ble_eq_true rfl) (Nat.zero_le _) (Nat.zero_le _) (tX9_codeAt s0 b1 ?_)
  show Go X (d + (n + 1) + 6) mc ms kX9_termOf Q 62 [(0, .ref a0), (1, .int (x1)), (2, .long (y2))] [.int ((fX9_codeAt M a0 (g_mi M a0 22)))] M 0 0
  generalize hv1 : (fX9_codeAt M a0 (g_mi M a0 22)) = v1
  replace H := H v1 hv1.symm
  refine g_istore 64 [(4, .int (v1)), (0, .ref a0), (1, .int (x1)), (2, .long (y2))] dX9_termOf_62 rfl (Nat.le_of_ble_eq_true rfl) rfl ?_
  refine g_aload_n 1 65 dX9_termOf_64 rfl rfl ?_
  refine g_dup 66 dX9_termOf_65 rfl rfl ?_
  refine g_getI 69 dX9_termOf_66 rfl flX9_269 s0.1 ?_
  refine g_iconst (1) 70 dX9_termOf_69 rfl rfl ?_
  refine g_iadd 71 dX9_termOf_70 rfl ?_
  refine g_putI 74 dX9_termOf_71 rfl flX9_269 s0.1 ?_
  generalize hM1 : (g_wi M a0 22 ((g_mi M a0 22) + 1)) = M1
  have j1 : Sm M M1 := by rw [← hM1]; exact (Sm.wi Sm.rf)
  replace H := H M1 hM1.symm
  refine g_aload_n 1 75 dX9_termOf_74 rfl rfl ?_
  refine g_iload_n 2 76 dX9_termOf_75 rfl rfl ?_
  refine g_callV (mc1 := 0) (ms1 := 0) (b := a0) (rest := []) (av := [.int (x1)]) kX9_partOf 79 dX9_termOf_76 rfl rfl mbX9_290 imX9_partOf seX9_partOf gcl9.1 (Sm.k j1 s0.1) (Nat.le_of_ble_eq_true rfl) (Nat.zero_le _) (Nat.zero_le _) ((ih.2.2.2.2.2.2.2.2.2.2.2) d _ 0 0 _ M1 a0 x1 0 0 _ (by omega) (Mo.sm j1 s0) H (fun v2 w2 M2 jj H => ?_))
  have j2 : Sm M M2 := (Sm.tr j1 jj)
  show Go X (d + (n + 1) + 6) mc ms kX9_termOf Q 79 [(4, .int (v1)), (0, .ref a0), (1, .int (x1)), (2, .long (y2))] [.long (w2)] M2 0 0
  refine g_lstore 81 [(5, .long (w2)), (4, .int (v1)), (0, .ref a0), (1, .int (x1)), (2, .long (y2))] dX9_termOf_79 rfl (Nat.le_of_ble_eq_true rfl) rfl ?_
  refine g_iload 1 83 dX9_termOf_81 rfl rfl ?_
  refine g_bipush (42) 85 dX9_termOf_83 rfl rfl ?_
  refine g_callS (mc1 := 0) (ms1 := 0) (rest := [.int (v1)]) (av := [.int (42)]) kX9_sign 88 dX9_termOf_85 rfl rfl mbX9_228 smX9_sign (Nat.le_of_ble_eq_true rfl) (Nat.zero_le _) (Nat.zero_le _) (tX9_sign  ?_)
  show Go X (d + (n + 1) + 6) mc ms kX9_termOf Q 88 [(5, .long (w2)), (4, .int (v1)), (0, .ref a0), (1, .int (x1)), (2, .long (y2))] [.int ((fX9_sign 42)), .int (v1)] M2 0 0
  generalize hv3 : (fX9_sign 42) = v3
  replace H := H v3 hv3.symm
  refine g_icmp_eq 121 91 dX9_termOf_88 rfl rfl (fun c1 => ?_) (fun c1 => ?_)
  · skip
    replace H := H.1 c1
    exact g_sub [2, 3, 4, 1, 0] _ rfl (uxX9_termOf_121 ih (Mo.sm j2 s0) H (fun v w M1 j r => hR v w M1 (Sm.tr j2 j) r))
  · skip
    replace H := H.2 c1
    refine g_lload 0 93 dX9_termOf_91 rfl rfl ?_
    refine g_lconst (0) 94 dX9_termOf_93 rfl rfl ?_
    refine g_lcmp 95 dX9_termOf_94 rfl ?_
    refine g_if_ne 121 98 dX9_termOf_95 rfl rfl (fun c2 => ?_) (fun c2 => ?_)
    · skip
      replace H := H.1 c2
      exact g_sub [2, 3, 4, 1, 0] _ rfl (uxX9_termOf_121 ih (Mo.sm j2 s0) H (fun v w M1 j r => hR v w M1 (Sm.tr j2 j) r))
    · skip
      replace H := H.2 c2
      refine g_aload_n 2 99 dX9_termOf_98 rfl rfl ?_
      refine g_aload_n 2 100 dX9_termOf_99 rfl rfl ?_
      refine g_getI 103 dX9_termOf_100 rfl flX9_279 (Sm.k j2 s0.1) ?_
      refine g_if_ne 110 106 dX9_termOf_103 rfl rfl (fun c3 => ?_) (fun c3 => ?_)
      · skip
        replace H := H.1 c3
        refine g_iconst (1) 111 dX9_termOf_110 rfl rfl ?_
        refine g_goto 115 dX9_termOf_111 rfl ?_
        refine g_putZ 118 dX9_termOf_115 rfl flX9_279 (Sm.k j2 s0.1) (by decide) ?_
        generalize hM3 : (g_wi M2 a0 24 1) = M3
        have j3 : Sm M M3 := by rw [← hM3]; exact (Sm.wi j2)
        replace H := H M3 hM3.symm
        refine g_lconst (1) 119 dX9_termOf_118 rfl rfl ?_
        refine g_lstore 121 [(5, .long (1)), (4, .int (v1)), (0, .ref a0), (1, .int (x1)), (2, .long (y2))] dX9_termOf_119 rfl (Nat.le_of_ble_eq_true rfl) rfl ?_
        exact g_sub [2, 3, 4, 1, 0] _ rfl (uxX9_termOf_121 ih (Mo.sm j3 s0) H (fun v w M1 j r => hR v w M1 (Sm.tr j3 j) r))
      · skip
        replace H := H.2 c3
        refine g_iload_n 3 107 dX9_termOf_106 rfl rfl ?_
        refine g_if_eq 114 110 dX9_termOf_107 rfl rfl (fun c4 => ?_) (fun c4 => ?_)
        · skip
          replace H := H.1 c4
          refine g_iconst (0) 115 dX9_termOf_114 rfl rfl ?_
          refine g_putZ 118 dX9_termOf_115 rfl flX9_279 (Sm.k j2 s0.1) (by decide) ?_
          generalize hM4 : (g_wi M2 a0 24 0) = M4
          have j4 : Sm M M4 := by rw [← hM4]; exact (Sm.wi j2)
          replace H := H M4 hM4.symm
          refine g_lconst (1) 119 dX9_termOf_118 rfl rfl ?_
          refine g_lstore 121 [(5, .long (1)), (4, .int (v1)), (0, .ref a0), (1, .int (x1)), (2, .long (y2))] dX9_termOf_119 rfl (Nat.le_of_ble_eq_true rfl) rfl ?_
          exact g_sub [2, 3, 4, 1, 0] _ rfl (uxX9_termOf_121 ih (Mo.sm j4 s0) H (fun v w M1 j r => hR v w M1 (Sm.tr j4 j) r))
        · skip
          replace H := H.2 c4
          refine g_iconst (1) 111 dX9_termOf_110 rfl rfl ?_
          refine g_goto 115 dX9_termOf_111 rfl ?_
          refine g_putZ 118 dX9_termOf_115 rfl flX9_279 (Sm.k j2 s0.1) (by decide) ?_
          generalize hM5 : (g_wi M2 a0 24 1) = M5
          have j5 : Sm M M5 := by rw [← hM5]; exact (Sm.wi j2)
          replace H := H M5 hM5.symm
          refine g_lconst (1) 119 dX9_termOf_118 rfl rfl ?_
          refine g_lstore 121 [(5, .long (1)), (4, .int (v1)), (0, .ref a0), (1, .int (x1)), (2, .long (y2))] dX9_termOf_119 rfl (Nat.le_of_ble_eq_true rfl) rfl ?_
          exact g_sub [2, 3, 4, 1, 0] _ rfl (uxX9_termOf_121 ih (Mo.sm j5 s0) H (fun v w M1 j r => hR v w M1 (Sm.tr j5 j) r))
set_option maxRecDepth 10000 in
theorem uzX9_testOf_0 {X : gX} {N : Nat} {n : Nat} (ih : UgME X N n) : UX9_testOf_0 X N (n + 1) := by
  intro d D mc ms Q M a0 x1 x2 y2 R hD s0 H hR
  subst hD
  rw [qgME, if_pos (show (0 : Nat) = 0 from rfl)] at H
  unfold pX9_testOf_0 at H
  refine g_meth rfl rfl (Nat.le_of_ble_eq_true rfl) rfl ?_
  refine g_aload_n 0 1 dX9_testOf_0 rfl rfl ?_
  refine g_iload_n 1 2 dX9_testOf_1 rfl rfl ?_
  refine g_callV (mc1 := 0) (ms1 := 0) (b := a0) (rest := []) (av := [.int (x1)]) kX9_bothOf 5 dX9_testOf_2 rfl rfl mbX9_314 imX9_bothOf seX9_bothOf gcl9.1 s0.1 (Nat.le_of_ble_eq_true rfl) (Nat.zero_le _) (Nat.zero_le _) ((ih.2.2.1) d _ 0 0 _ M a0 x1 0 0 _ (by omega) s0 H (fun v1 w1 M1 jj H => ?_))
  have j1 : Sm M M1 := jj
  show Go X (d + (n + 1) + 6) mc ms kX9_testOf Q 5 [(0, .ref a0), (1, .int (x1))] [.int (v1)] M1 0 0
  refine g_istore_n 6 [(2, .int (v1)), (0, .ref a0), (1, .int (x1))] dX9_testOf_5 rfl (Nat.le_of_ble_eq_true rfl) rfl ?_
  exact g_sub [1, 2, 0] _ rfl ((ih.2.1) (d + 1) _ _ _ _ M1 a0 x1 v1 0 _ (by omega) (Mo.sm j1 s0) H (fun v w M1 j r => hR v w M1 (Sm.tr j1 j) r))
set_option maxRecDepth 10000 in
theorem uzX9_testOf_6 {X : gX} {N : Nat} {n : Nat} (ih : UgME X N n) : UX9_testOf_6 X N (n + 1) := by
  intro d D mc ms Q M a0 x1 x2 y2 R hD s0 H hR
  subst hD
  rw [qgME, if_neg (show ¬ (1 : Nat) = 0 by decide), if_pos (show (1 : Nat) = 1 from rfl)] at H
  unfold pX9_testOf_6 at H
  refine g_aload_n 0 7 dX9_testOf_6 rfl rfl ?_
  refine g_iconst (4) 8 dX9_testOf_7 rfl rfl ?_
  refine g_callV (mc1 := 0) (ms1 := 0) (b := a0) (rest := []) (av := [.int (4)]) kX9_passes0 11 dX9_testOf_8 rfl rfl mbX9_293 imX9_passes0 seX9_passes0 gcl9.1 s0.1 (Nat.le_of_ble_eq_true rfl) (Nat.zero_le _) (Nat.zero_le _) (uX9_passes0 (N := N) (K := 0) s0 H (fun v1 M1 jj H => ?_))
  have j1 : Sm M M1 := jj
  show Go X (d + (n + 1) + 6) mc ms kX9_testOf Q 11 [(0, .ref a0), (1, .int (x1)), (2, .int (x2))] [.int (v1)] M1 0 0
  refine g_if_eq 49 14 dX9_testOf_11 rfl rfl (fun c1 => ?_) (fun c1 => ?_)
  · skip
    replace H := H.1 c1
    refine g_iload_n 2 50 dX9_testOf_49 rfl rfl ?_
    obtain ⟨b1, H⟩ := H
    exact g_zret dX9_testOf_50 rfl b1 (Nat.zero_le _) (Nat.zero_le _) (hR _ _ _ j1 H)
  · skip
    replace H := H.2 c1
    refine g_aload_n 0 15 dX9_testOf_14 rfl rfl ?_
    refine g_iload_n 1 16 dX9_testOf_15 rfl rfl ?_
    refine g_if_eq 27 19 dX9_testOf_16 rfl rfl (fun c2 => ?_) (fun c2 => ?_)
    · skip
      replace H := H.1 c2
      refine g_iconst (0) 28 dX9_testOf_27 rfl rfl ?_
      refine g_callV (mc1 := 0) (ms1 := 0) (b := a0) (rest := []) (av := [.int (0)]) kX9_bothOf 31 dX9_testOf_28 rfl rfl mbX9_314 imX9_bothOf seX9_bothOf gcl9.1 (Sm.k j1 s0.1) (Nat.le_of_ble_eq_true rfl) (Nat.zero_le _) (Nat.zero_le _) ((ih.2.2.1) d _ 0 0 _ M1 a0 0 0 0 _ (by omega) (Mo.sm j1 s0) H (fun v2 w2 M2 jj H => ?_))
      have j2 : Sm M M2 := (Sm.tr j1 jj)
      show Go X (d + (n + 1) + 6) mc ms kX9_testOf Q 31 [(0, .ref a0), (1, .int (x1)), (2, .int (x2))] [.int (v2)] M2 0 0
      refine g_istore_n 32 [(3, .int (v2)), (0, .ref a0), (1, .int (x1)), (2, .int (x2))] dX9_testOf_31 rfl (Nat.le_of_ble_eq_true rfl) rfl ?_
      refine g_iload_n 3 33 dX9_testOf_32 rfl rfl ?_
      refine g_if_ne 40 36 dX9_testOf_33 rfl rfl (fun c3 => ?_) (fun c3 => ?_)
      · skip
        replace H := H.1 c3
        refine g_iconst (1) 41 dX9_testOf_40 rfl rfl ?_
        refine g_goto 45 dX9_testOf_41 rfl ?_
        refine g_istore_n 46 [(2, .int (1)), (3, .int (v2)), (0, .ref a0), (1, .int (x1))] dX9_testOf_45 rfl (Nat.le_of_ble_eq_true rfl) rfl ?_
        refine g_goto 6 dX9_testOf_46 rfl ?_
        exact g_sub [2, 3, 0] _ rfl ((ih.2.1) (d + 1) _ _ _ _ M2 a0 x1 1 0 _ (by omega) (Mo.sm j2 s0) H (fun v w M1 j r => hR v w M1 (Sm.tr j2 j) r))
      · skip
        replace H := H.2 c3
        refine g_iload_n 0 37 dX9_testOf_36 rfl rfl ?_
        refine g_if_eq 44 40 dX9_testOf_37 rfl rfl (fun c4 => ?_) (fun c4 => ?_)
        · skip
          replace H := H.1 c4
          refine g_iconst (0) 45 dX9_testOf_44 rfl rfl ?_
          refine g_istore_n 46 [(2, .int (0)), (3, .int (v2)), (0, .ref a0), (1, .int (x1))] dX9_testOf_45 rfl (Nat.le_of_ble_eq_true rfl) rfl ?_
          refine g_goto 6 dX9_testOf_46 rfl ?_
          exact g_sub [2, 3, 0] _ rfl ((ih.2.1) (d + 1) _ _ _ _ M2 a0 x1 0 0 _ (by omega) (Mo.sm j2 s0) H (fun v w M1 j r => hR v w M1 (Sm.tr j2 j) r))
        · skip
          replace H := H.2 c4
          refine g_iconst (1) 41 dX9_testOf_40 rfl rfl ?_
          refine g_goto 45 dX9_testOf_41 rfl ?_
          refine g_istore_n 46 [(2, .int (1)), (3, .int (v2)), (0, .ref a0), (1, .int (x1))] dX9_testOf_45 rfl (Nat.le_of_ble_eq_true rfl) rfl ?_
          refine g_goto 6 dX9_testOf_46 rfl ?_
          exact g_sub [2, 3, 0] _ rfl ((ih.2.1) (d + 1) _ _ _ _ M2 a0 x1 1 0 _ (by omega) (Mo.sm j2 s0) H (fun v w M1 j r => hR v w M1 (Sm.tr j2 j) r))
    · skip
      replace H := H.2 c2
      refine g_iload_n 2 20 dX9_testOf_19 rfl rfl ?_
      refine g_if_ne 27 23 dX9_testOf_20 rfl rfl (fun c5 => ?_) (fun c5 => ?_)
      · skip
        replace H := H.1 c5
        refine g_iconst (0) 28 dX9_testOf_27 rfl rfl ?_
        refine g_callV (mc1 := 0) (ms1 := 0) (b := a0) (rest := []) (av := [.int (0)]) kX9_bothOf 31 dX9_testOf_28 rfl rfl mbX9_314 imX9_bothOf seX9_bothOf gcl9.1 (Sm.k j1 s0.1) (Nat.le_of_ble_eq_true rfl) (Nat.zero_le _) (Nat.zero_le _) ((ih.2.2.1) d _ 0 0 _ M1 a0 0 0 0 _ (by omega) (Mo.sm j1 s0) H (fun v3 w3 M3 jj H => ?_))
        have j3 : Sm M M3 := (Sm.tr j1 jj)
        show Go X (d + (n + 1) + 6) mc ms kX9_testOf Q 31 [(0, .ref a0), (1, .int (x1)), (2, .int (x2))] [.int (v3)] M3 0 0
        refine g_istore_n 32 [(3, .int (v3)), (0, .ref a0), (1, .int (x1)), (2, .int (x2))] dX9_testOf_31 rfl (Nat.le_of_ble_eq_true rfl) rfl ?_
        refine g_iload_n 3 33 dX9_testOf_32 rfl rfl ?_
        refine g_if_ne 40 36 dX9_testOf_33 rfl rfl (fun _ => ?_) (fun q => absurd q c5)
        refine g_iconst (1) 41 dX9_testOf_40 rfl rfl ?_
        refine g_goto 45 dX9_testOf_41 rfl ?_
        refine g_istore_n 46 [(2, .int (1)), (3, .int (v3)), (0, .ref a0), (1, .int (x1))] dX9_testOf_45 rfl (Nat.le_of_ble_eq_true rfl) rfl ?_
        refine g_goto 6 dX9_testOf_46 rfl ?_
        exact g_sub [2, 3, 0] _ rfl ((ih.2.1) (d + 1) _ _ _ _ M3 a0 x1 1 0 _ (by omega) (Mo.sm j3 s0) H (fun v w M1 j r => hR v w M1 (Sm.tr j3 j) r))
      · skip
        replace H := H.2 c5
        refine g_iconst (1) 24 dX9_testOf_23 rfl rfl ?_
        refine g_goto 28 dX9_testOf_24 rfl ?_
        refine g_callV (mc1 := 0) (ms1 := 0) (b := a0) (rest := []) (av := [.int (1)]) kX9_bothOf 31 dX9_testOf_28 rfl rfl mbX9_314 imX9_bothOf seX9_bothOf gcl9.1 (Sm.k j1 s0.1) (Nat.le_of_ble_eq_true rfl) (Nat.zero_le _) (Nat.zero_le _) ((ih.2.2.1) d _ 0 0 _ M1 a0 1 0 0 _ (by omega) (Mo.sm j1 s0) H (fun v4 w4 M4 jj H => ?_))
        have j4 : Sm M M4 := (Sm.tr j1 jj)
        show Go X (d + (n + 1) + 6) mc ms kX9_testOf Q 31 [(0, .ref a0), (1, .int (x1)), (2, .int (x2))] [.int (v4)] M4 0 0
        refine g_istore_n 32 [(3, .int (v4)), (0, .ref a0), (1, .int (x1)), (2, .int (x2))] dX9_testOf_31 rfl (Nat.le_of_ble_eq_true rfl) rfl ?_
        refine g_iload_n 3 33 dX9_testOf_32 rfl rfl ?_
        refine g_if_ne 40 36 dX9_testOf_33 rfl rfl (fun q => absurd c5 q) (fun _ => ?_)
        refine g_iload_n 0 37 dX9_testOf_36 rfl rfl ?_
        refine g_if_eq 44 40 dX9_testOf_37 rfl rfl (fun c6 => ?_) (fun c6 => ?_)
        · skip
          replace H := H.1 c6
          refine g_iconst (0) 45 dX9_testOf_44 rfl rfl ?_
          refine g_istore_n 46 [(2, .int (0)), (3, .int (v4)), (0, .ref a0), (1, .int (x1))] dX9_testOf_45 rfl (Nat.le_of_ble_eq_true rfl) rfl ?_
          refine g_goto 6 dX9_testOf_46 rfl ?_
          exact g_sub [2, 3, 0] _ rfl ((ih.2.1) (d + 1) _ _ _ _ M4 a0 x1 0 0 _ (by omega) (Mo.sm j4 s0) H (fun v w M1 j r => hR v w M1 (Sm.tr j4 j) r))
        · skip
          replace H := H.2 c6
          refine g_iconst (1) 41 dX9_testOf_40 rfl rfl ?_
          refine g_goto 45 dX9_testOf_41 rfl ?_
          refine g_istore_n 46 [(2, .int (1)), (3, .int (v4)), (0, .ref a0), (1, .int (x1))] dX9_testOf_45 rfl (Nat.le_of_ble_eq_true rfl) rfl ?_
          refine g_goto 6 dX9_testOf_46 rfl ?_
          exact g_sub [2, 3, 0] _ rfl ((ih.2.1) (d + 1) _ _ _ _ M4 a0 x1 1 0 _ (by omega) (Mo.sm j4 s0) H (fun v w M1 j r => hR v w M1 (Sm.tr j4 j) r))
set_option maxRecDepth 10000 in
theorem uzX9_bothOf_0 {X : gX} {N : Nat} {n : Nat} (ih : UgME X N n) : UX9_bothOf_0 X N (n + 1) := by
  intro d D mc ms Q M a0 x1 x2 y2 R hD s0 H hR
  subst hD
  rw [qgME, if_neg (show ¬ (2 : Nat) = 0 by decide), if_neg (show ¬ (2 : Nat) = 1 by decide), if_pos (show (2 : Nat) = 2 from rfl)] at H
  unfold pX9_bothOf_0 at H
  refine g_meth rfl rfl (Nat.le_of_ble_eq_true rfl) rfl ?_
  refine g_aload_n 0 1 dX9_bothOf_0 rfl rfl ?_
  refine g_iload_n 1 2 dX9_bothOf_1 rfl rfl ?_
  refine g_callV (mc1 := 0) (ms1 := 0) (b := a0) (rest := []) (av := [.int (x1)]) kX9_plainOf 5 dX9_bothOf_2 rfl rfl mbX9_317 imX9_plainOf seX9_plainOf gcl9.1 s0.1 (Nat.le_of_ble_eq_true rfl) (Nat.zero_le _) (Nat.zero_le _) ((ih.2.2.2.2.1) d _ 0 0 _ M a0 x1 0 0 _ (by omega) s0 H (fun v1 w1 M1 jj H => ?_))
  have j1 : Sm M M1 := jj
  show Go X (d + (n + 1) + 6) mc ms kX9_bothOf Q 5 [(0, .ref a0), (1, .int (x1))] [.int (v1)] M1 0 0
  refine g_istore_n 6 [(2, .int (v1)), (0, .ref a0), (1, .int (x1))] dX9_bothOf_5 rfl (Nat.le_of_ble_eq_true rfl) rfl ?_
  exact g_sub [1, 2, 0] _ rfl ((ih.2.2.2.1) (d + 1) _ _ _ _ M1 a0 x1 v1 0 _ (by omega) (Mo.sm j1 s0) H (fun v w M1 j r => hR v w M1 (Sm.tr j1 j) r))
set_option maxRecDepth 10000 in
theorem uzX9_bothOf_6 {X : gX} {N : Nat} {n : Nat} (ih : UgME X N n) : UX9_bothOf_6 X N (n + 1) := by
  intro d D mc ms Q M a0 x1 x2 y2 R hD s0 H hR
  subst hD
  rw [qgME, if_neg (show ¬ (3 : Nat) = 0 by decide), if_neg (show ¬ (3 : Nat) = 1 by decide), if_neg (show ¬ (3 : Nat) = 2 by decide), if_pos (show (3 : Nat) = 3 from rfl)] at H
  unfold pX9_bothOf_6 at H
  refine g_aload_n 0 7 dX9_bothOf_6 rfl rfl ?_
  refine g_iconst (5) 8 dX9_bothOf_7 rfl rfl ?_
  refine g_callV (mc1 := 0) (ms1 := 0) (b := a0) (rest := []) (av := [.int (5)]) kX9_passes0 11 dX9_bothOf_8 rfl rfl mbX9_293 imX9_passes0 seX9_passes0 gcl9.1 s0.1 (Nat.le_of_ble_eq_true rfl) (Nat.zero_le _) (Nat.zero_le _) (uX9_passes0 (N := N) (K := 0) s0 H (fun v1 M1 jj H => ?_))
  have j1 : Sm M M1 := jj
  show Go X (d + (n + 1) + 6) mc ms kX9_bothOf Q 11 [(0, .ref a0), (1, .int (x1)), (2, .int (x2))] [.int (v1)] M1 0 0
  refine g_if_eq 49 14 dX9_bothOf_11 rfl rfl (fun c1 => ?_) (fun c1 => ?_)
  · skip
    replace H := H.1 c1
    refine g_iload_n 2 50 dX9_bothOf_49 rfl rfl ?_
    obtain ⟨b1, H⟩ := H
    exact g_zret dX9_bothOf_50 rfl b1 (Nat.zero_le _) (Nat.zero_le _) (hR _ _ _ j1 H)
  · skip
    replace H := H.2 c1
    refine g_aload_n 0 15 dX9_bothOf_14 rfl rfl ?_
    refine g_iload_n 1 16 dX9_bothOf_15 rfl rfl ?_
    refine g_if_eq 27 19 dX9_bothOf_16 rfl rfl (fun c2 => ?_) (fun c2 => ?_)
    · skip
      replace H := H.1 c2
      refine g_iconst (0) 28 dX9_bothOf_27 rfl rfl ?_
      refine g_callV (mc1 := 0) (ms1 := 0) (b := a0) (rest := []) (av := [.int (0)]) kX9_plainOf 31 dX9_bothOf_28 rfl rfl mbX9_317 imX9_plainOf seX9_plainOf gcl9.1 (Sm.k j1 s0.1) (Nat.le_of_ble_eq_true rfl) (Nat.zero_le _) (Nat.zero_le _) ((ih.2.2.2.2.1) d _ 0 0 _ M1 a0 0 0 0 _ (by omega) (Mo.sm j1 s0) H (fun v2 w2 M2 jj H => ?_))
      have j2 : Sm M M2 := (Sm.tr j1 jj)
      show Go X (d + (n + 1) + 6) mc ms kX9_bothOf Q 31 [(0, .ref a0), (1, .int (x1)), (2, .int (x2))] [.int (v2)] M2 0 0
      refine g_istore_n 32 [(3, .int (v2)), (0, .ref a0), (1, .int (x1)), (2, .int (x2))] dX9_bothOf_31 rfl (Nat.le_of_ble_eq_true rfl) rfl ?_
      refine g_iload_n 3 33 dX9_bothOf_32 rfl rfl ?_
      refine g_if_eq 44 36 dX9_bothOf_33 rfl rfl (fun c3 => ?_) (fun c3 => ?_)
      · skip
        replace H := H.1 c3
        refine g_iconst (0) 45 dX9_bothOf_44 rfl rfl ?_
        refine g_istore_n 46 [(2, .int (0)), (3, .int (v2)), (0, .ref a0), (1, .int (x1))] dX9_bothOf_45 rfl (Nat.le_of_ble_eq_true rfl) rfl ?_
        refine g_goto 6 dX9_bothOf_46 rfl ?_
        exact g_sub [2, 3, 0] _ rfl ((ih.2.2.2.1) (d + 1) _ _ _ _ M2 a0 x1 0 0 _ (by omega) (Mo.sm j2 s0) H (fun v w M1 j r => hR v w M1 (Sm.tr j2 j) r))
      · skip
        replace H := H.2 c3
        refine g_iload_n 0 37 dX9_bothOf_36 rfl rfl ?_
        refine g_if_eq 44 40 dX9_bothOf_37 rfl rfl (fun c4 => ?_) (fun c4 => ?_)
        · skip
          replace H := H.1 c4
          refine g_iconst (0) 45 dX9_bothOf_44 rfl rfl ?_
          refine g_istore_n 46 [(2, .int (0)), (3, .int (v2)), (0, .ref a0), (1, .int (x1))] dX9_bothOf_45 rfl (Nat.le_of_ble_eq_true rfl) rfl ?_
          refine g_goto 6 dX9_bothOf_46 rfl ?_
          exact g_sub [2, 3, 0] _ rfl ((ih.2.2.2.1) (d + 1) _ _ _ _ M2 a0 x1 0 0 _ (by omega) (Mo.sm j2 s0) H (fun v w M1 j r => hR v w M1 (Sm.tr j2 j) r))
        · skip
          replace H := H.2 c4
          refine g_iconst (1) 41 dX9_bothOf_40 rfl rfl ?_
          refine g_goto 45 dX9_bothOf_41 rfl ?_
          refine g_istore_n 46 [(2, .int (1)), (3, .int (v2)), (0, .ref a0), (1, .int (x1))] dX9_bothOf_45 rfl (Nat.le_of_ble_eq_true rfl) rfl ?_
          refine g_goto 6 dX9_bothOf_46 rfl ?_
          exact g_sub [2, 3, 0] _ rfl ((ih.2.2.2.1) (d + 1) _ _ _ _ M2 a0 x1 1 0 _ (by omega) (Mo.sm j2 s0) H (fun v w M1 j r => hR v w M1 (Sm.tr j2 j) r))
    · skip
      replace H := H.2 c2
      refine g_iload_n 2 20 dX9_bothOf_19 rfl rfl ?_
      refine g_if_eq 27 23 dX9_bothOf_20 rfl rfl (fun c5 => ?_) (fun c5 => ?_)
      · skip
        replace H := H.1 c5
        refine g_iconst (0) 28 dX9_bothOf_27 rfl rfl ?_
        refine g_callV (mc1 := 0) (ms1 := 0) (b := a0) (rest := []) (av := [.int (0)]) kX9_plainOf 31 dX9_bothOf_28 rfl rfl mbX9_317 imX9_plainOf seX9_plainOf gcl9.1 (Sm.k j1 s0.1) (Nat.le_of_ble_eq_true rfl) (Nat.zero_le _) (Nat.zero_le _) ((ih.2.2.2.2.1) d _ 0 0 _ M1 a0 0 0 0 _ (by omega) (Mo.sm j1 s0) H (fun v3 w3 M3 jj H => ?_))
        have j3 : Sm M M3 := (Sm.tr j1 jj)
        show Go X (d + (n + 1) + 6) mc ms kX9_bothOf Q 31 [(0, .ref a0), (1, .int (x1)), (2, .int (x2))] [.int (v3)] M3 0 0
        refine g_istore_n 32 [(3, .int (v3)), (0, .ref a0), (1, .int (x1)), (2, .int (x2))] dX9_bothOf_31 rfl (Nat.le_of_ble_eq_true rfl) rfl ?_
        refine g_iload_n 3 33 dX9_bothOf_32 rfl rfl ?_
        refine g_if_eq 44 36 dX9_bothOf_33 rfl rfl (fun _ => ?_) (fun q => absurd c5 q)
        refine g_iconst (0) 45 dX9_bothOf_44 rfl rfl ?_
        refine g_istore_n 46 [(2, .int (0)), (3, .int (v3)), (0, .ref a0), (1, .int (x1))] dX9_bothOf_45 rfl (Nat.le_of_ble_eq_true rfl) rfl ?_
        refine g_goto 6 dX9_bothOf_46 rfl ?_
        exact g_sub [2, 3, 0] _ rfl ((ih.2.2.2.1) (d + 1) _ _ _ _ M3 a0 x1 0 0 _ (by omega) (Mo.sm j3 s0) H (fun v w M1 j r => hR v w M1 (Sm.tr j3 j) r))
      · skip
        replace H := H.2 c5
        refine g_iconst (1) 24 dX9_bothOf_23 rfl rfl ?_
        refine g_goto 28 dX9_bothOf_24 rfl ?_
        refine g_callV (mc1 := 0) (ms1 := 0) (b := a0) (rest := []) (av := [.int (1)]) kX9_plainOf 31 dX9_bothOf_28 rfl rfl mbX9_317 imX9_plainOf seX9_plainOf gcl9.1 (Sm.k j1 s0.1) (Nat.le_of_ble_eq_true rfl) (Nat.zero_le _) (Nat.zero_le _) ((ih.2.2.2.2.1) d _ 0 0 _ M1 a0 1 0 0 _ (by omega) (Mo.sm j1 s0) H (fun v4 w4 M4 jj H => ?_))
        have j4 : Sm M M4 := (Sm.tr j1 jj)
        show Go X (d + (n + 1) + 6) mc ms kX9_bothOf Q 31 [(0, .ref a0), (1, .int (x1)), (2, .int (x2))] [.int (v4)] M4 0 0
        refine g_istore_n 32 [(3, .int (v4)), (0, .ref a0), (1, .int (x1)), (2, .int (x2))] dX9_bothOf_31 rfl (Nat.le_of_ble_eq_true rfl) rfl ?_
        refine g_iload_n 3 33 dX9_bothOf_32 rfl rfl ?_
        refine g_if_eq 44 36 dX9_bothOf_33 rfl rfl (fun q => absurd q c5) (fun _ => ?_)
        refine g_iload_n 0 37 dX9_bothOf_36 rfl rfl ?_
        refine g_if_eq 44 40 dX9_bothOf_37 rfl rfl (fun c6 => ?_) (fun c6 => ?_)
        · skip
          replace H := H.1 c6
          refine g_iconst (0) 45 dX9_bothOf_44 rfl rfl ?_
          refine g_istore_n 46 [(2, .int (0)), (3, .int (v4)), (0, .ref a0), (1, .int (x1))] dX9_bothOf_45 rfl (Nat.le_of_ble_eq_true rfl) rfl ?_
          refine g_goto 6 dX9_bothOf_46 rfl ?_
          exact g_sub [2, 3, 0] _ rfl ((ih.2.2.2.1) (d + 1) _ _ _ _ M4 a0 x1 0 0 _ (by omega) (Mo.sm j4 s0) H (fun v w M1 j r => hR v w M1 (Sm.tr j4 j) r))
        · skip
          replace H := H.2 c6
          refine g_iconst (1) 41 dX9_bothOf_40 rfl rfl ?_
          refine g_goto 45 dX9_bothOf_41 rfl ?_
          refine g_istore_n 46 [(2, .int (1)), (3, .int (v4)), (0, .ref a0), (1, .int (x1))] dX9_bothOf_45 rfl (Nat.le_of_ble_eq_true rfl) rfl ?_
          refine g_goto 6 dX9_bothOf_46 rfl ?_
          exact g_sub [2, 3, 0] _ rfl ((ih.2.2.2.1) (d + 1) _ _ _ _ M4 a0 x1 1 0 _ (by omega) (Mo.sm j4 s0) H (fun v w M1 j r => hR v w M1 (Sm.tr j4 j) r))
set_option maxRecDepth 10000 in
theorem uzX9_plainOf_0 {X : gX} {N : Nat} {n : Nat} (ih : UgME X N n) : UX9_plainOf_0 X N (n + 1) := by
  intro d D mc ms Q M a0 x1 x2 y2 R hD s0 H hR
  subst hD
  rw [qgME, if_neg (show ¬ (4 : Nat) = 0 by decide), if_neg (show ¬ (4 : Nat) = 1 by decide), if_neg (show ¬ (4 : Nat) = 2 by decide), if_neg (show ¬ (4 : Nat) = 3 by decide), if_pos (show (4 : Nat) = 4 from rfl)] at H
  unfold pX9_plainOf_0 at H
  refine g_meth rfl rfl (Nat.le_of_ble_eq_true rfl) rfl ?_
  refine g_iconst (0) 1 dX9_plainOf_0 rfl rfl ?_
  refine g_istore_n 2 [(2, .int (0)), (0, .ref a0), (1, .int (x1))] dX9_plainOf_1 rfl (Nat.le_of_ble_eq_true rfl) rfl ?_
  exact g_sub [1, 2, 0] _ rfl ((ih.2.2.2.2.2.1) (d + 1) _ _ _ _ M a0 x1 0 0 _ (by omega) s0 H (fun v w M1 j r => hR v w M1 j r))
set_option maxRecDepth 10000 in
theorem uzX9_plainOf_2 {X : gX} {N : Nat} {n : Nat} (ih : UgME X N n) : UX9_plainOf_2 X N (n + 1) := by
  intro d D mc ms Q M a0 x1 x2 y2 R hD s0 H hR
  subst hD
  rw [qgME, if_neg (show ¬ (5 : Nat) = 0 by decide), if_neg (show ¬ (5 : Nat) = 1 by decide), if_neg (show ¬ (5 : Nat) = 2 by decide), if_neg (show ¬ (5 : Nat) = 3 by decide), if_neg (show ¬ (5 : Nat) = 4 by decide), if_pos (show (5 : Nat) = 5 from rfl)] at H
  unfold pX9_plainOf_2 at H
  refine g_aload_n 0 3 dX9_plainOf_2 rfl rfl ?_
  refine g_bipush (6) 5 dX9_plainOf_3 rfl rfl ?_
  refine g_callV (mc1 := 0) (ms1 := 0) (b := a0) (rest := []) (av := [.int (6)]) kX9_passes0 8 dX9_plainOf_5 rfl rfl mbX9_293 imX9_passes0 seX9_passes0 gcl9.1 s0.1 (Nat.le_of_ble_eq_true rfl) (Nat.zero_le _) (Nat.zero_le _) (uX9_passes0 (N := N) (K := 0) s0 H (fun v1 M1 jj H => ?_))
  have j1 : Sm M M1 := jj
  show Go X (d + (n + 1) + 6) mc ms kX9_plainOf Q 8 [(0, .ref a0), (1, .int (x1)), (2, .int (x2))] [.int (v1)] M1 0 0
  refine g_if_eq 24 11 dX9_plainOf_8 rfl rfl (fun c1 => ?_) (fun c1 => ?_)
  · skip
    replace H := H.1 c1
    refine g_aload_n 0 25 dX9_plainOf_24 rfl rfl ?_
    refine g_iload_n 1 26 dX9_plainOf_25 rfl rfl ?_
    refine g_callV (mc1 := 0) (ms1 := 0) (b := a0) (rest := []) (av := [.int (x1)]) kX9_positiveOf 29 dX9_plainOf_26 rfl rfl mbX9_320 imX9_positiveOf seX9_positiveOf gcl9.1 (Sm.k j1 s0.1) (Nat.le_of_ble_eq_true rfl) (Nat.zero_le _) (Nat.zero_le _) ((ih.2.2.2.2.2.2.1) d _ 0 0 _ M1 a0 x1 0 0 _ (by omega) (Mo.sm j1 s0) H (fun v2 w2 M2 jj H => ?_))
    have j2 : Sm M M2 := (Sm.tr j1 jj)
    show Go X (d + (n + 1) + 6) mc ms kX9_plainOf Q 29 [(0, .ref a0), (1, .int (x1)), (2, .int (x2))] [.int (v2)] M2 0 0
    refine g_iload_n 2 30 dX9_plainOf_29 rfl rfl ?_
    refine g_icmp_eq 37 33 dX9_plainOf_30 rfl rfl (fun c2 => ?_) (fun c2 => ?_)
    · skip
      replace H := H.1 c2
      refine g_iconst (0) 38 dX9_plainOf_37 rfl rfl ?_
      exact g_zret dX9_plainOf_38 rfl (by decide) (Nat.zero_le _) (Nat.zero_le _) (hR _ _ _ j2 H)
    · skip
      replace H := H.2 c2
      refine g_iconst (1) 34 dX9_plainOf_33 rfl rfl ?_
      refine g_goto 38 dX9_plainOf_34 rfl ?_
      exact g_zret dX9_plainOf_38 rfl (by decide) (Nat.zero_le _) (Nat.zero_le _) (hR _ _ _ j2 H)
  · skip
    replace H := H.2 c1
    refine g_iload_n 2 12 dX9_plainOf_11 rfl rfl ?_
    refine g_if_ne 19 15 dX9_plainOf_12 rfl rfl (fun c3 => ?_) (fun c3 => ?_)
    · skip
      replace H := H.1 c3
      refine g_iconst (0) 20 dX9_plainOf_19 rfl rfl ?_
      refine g_istore_n 21 [(2, .int (0)), (0, .ref a0), (1, .int (x1))] dX9_plainOf_20 rfl (Nat.le_of_ble_eq_true rfl) rfl ?_
      refine g_goto 2 dX9_plainOf_21 rfl ?_
      exact g_sub [1, 2, 0] _ rfl ((ih.2.2.2.2.2.1) (d + 1) _ _ _ _ M1 a0 x1 0 0 _ (by omega) (Mo.sm j1 s0) H (fun v w M1 j r => hR v w M1 (Sm.tr j1 j) r))
    · skip
      replace H := H.2 c3
      refine g_iconst (1) 16 dX9_plainOf_15 rfl rfl ?_
      refine g_goto 20 dX9_plainOf_16 rfl ?_
      refine g_istore_n 21 [(2, .int (1)), (0, .ref a0), (1, .int (x1))] dX9_plainOf_20 rfl (Nat.le_of_ble_eq_true rfl) rfl ?_
      refine g_goto 2 dX9_plainOf_21 rfl ?_
      exact g_sub [1, 2, 0] _ rfl ((ih.2.2.2.2.2.1) (d + 1) _ _ _ _ M1 a0 x1 1 0 _ (by omega) (Mo.sm j1 s0) H (fun v w M1 j r => hR v w M1 (Sm.tr j1 j) r))
set_option maxRecDepth 10000 in
theorem uzX9_positiveOf_0 {X : gX} {N : Nat} {n : Nat} (ih : UgME X N n) : UX9_positiveOf_0 X N (n + 1) := by
  intro d D mc ms Q M a0 x1 x2 y2 R hD s0 H hR
  subst hD
  rw [qgME, if_neg (show ¬ (6 : Nat) = 0 by decide), if_neg (show ¬ (6 : Nat) = 1 by decide), if_neg (show ¬ (6 : Nat) = 2 by decide), if_neg (show ¬ (6 : Nat) = 3 by decide), if_neg (show ¬ (6 : Nat) = 4 by decide), if_neg (show ¬ (6 : Nat) = 5 by decide), if_pos (show (6 : Nat) = 6 from rfl)] at H
  unfold pX9_positiveOf_0 at H
  refine g_meth rfl rfl (Nat.le_of_ble_eq_true rfl) rfl ?_
  refine g_aload_n 0 1 dX9_positiveOf_0 rfl rfl ?_
  refine g_bipush (40) 3 dX9_positiveOf_1 rfl rfl ?_
  refine g_callS (mc1 := 0) (ms1 := 0) (rest := [.ref a0]) (av := [.int (40)]) kX9_sign 6 dX9_positiveOf_3 rfl rfl mbX9_228 smX9_sign (Nat.le_of_ble_eq_true rfl) (Nat.zero_le _) (Nat.zero_le _) (tX9_sign  ?_)
  show Go X (d + (n + 1) + 6) mc ms kX9_positiveOf Q 6 [(0, .ref a0), (1, .int (x1))] [.int ((fX9_sign 40)), .ref a0] M 0 0
  generalize hv1 : (fX9_sign 40) = v1
  replace H := H v1 hv1.symm
  refine g_callV (mc1 := 0) (ms1 := 0) (b := a0) (rest := []) (av := [.int (v1)]) kX9_passes0 9 dX9_positiveOf_6 rfl rfl mbX9_293 imX9_passes0 seX9_passes0 gcl9.1 s0.1 (Nat.le_of_ble_eq_true rfl) (Nat.zero_le _) (Nat.zero_le _) (uX9_passes0 (N := N) (K := 0) s0 H (fun v2 M1 jj H => ?_))
  have j1 : Sm M M1 := jj
  show Go X (d + (n + 1) + 6) mc ms kX9_positiveOf Q 9 [(0, .ref a0), (1, .int (x1))] [.int (v2)] M1 0 0
  refine g_if_eq 30 12 dX9_positiveOf_9 rfl rfl (fun c1 => ?_) (fun c1 => ?_)
  · skip
    replace H := H.1 c1
    refine g_aload_n 0 31 dX9_positiveOf_30 rfl rfl ?_
    refine g_iload_n 1 32 dX9_positiveOf_31 rfl rfl ?_
    refine g_callV (mc1 := 0) (ms1 := 0) (b := a0) (rest := []) (av := [.int (x1)]) kX9_sumOf 35 dX9_positiveOf_32 rfl rfl mbX9_296 imX9_sumOf seX9_sumOf gcl9.1 (Sm.k j1 s0.1) (Nat.le_of_ble_eq_true rfl) (Nat.zero_le _) (Nat.zero_le _) ((ih.2.2.2.2.2.2.2.1) d _ 0 0 _ M1 a0 x1 0 0 _ (by omega) (Mo.sm j1 s0) H (fun v3 w3 M2 jj H => ?_))
    have j2 : Sm M M2 := (Sm.tr j1 jj)
    show Go X (d + (n + 1) + 6) mc ms kX9_positiveOf Q 35 [(0, .ref a0), (1, .int (x1))] [.long (w3)] M2 0 0
    refine g_lstore_n 36 [(2, .long (w3)), (0, .ref a0), (1, .int (x1))] dX9_positiveOf_35 rfl (Nat.le_of_ble_eq_true rfl) rfl ?_
    refine g_aload_n 1 37 dX9_positiveOf_36 rfl rfl ?_
    refine g_aload_n 1 38 dX9_positiveOf_37 rfl rfl ?_
    refine g_getI 41 dX9_positiveOf_38 rfl flX9_269 (Sm.k j2 s0.1) ?_
    obtain ⟨b1, H⟩ := H
    refine g_callV (mc1 := 0) (ms1 := 0) (b := a0) (rest := []) (av := [.int ((g_mi M2 a0 22))]) kX9_codeAt 44 dX9_positiveOf_41 rfl rfl mbX9_272 imX9_codeAt seX9_codeAt gcl9.1 (Sm.k j2 s0.1) (Nat.le_of_ble_eq_true rfl) (Nat.zero_le _) (Nat.zero_le _) (tX9_codeAt (Mo.sm j2 s0) b1 ?_)
    show Go X (d + (n + 1) + 6) mc ms kX9_positiveOf Q 44 [(2, .long (w3)), (0, .ref a0), (1, .int (x1))] [.int ((fX9_codeAt M2 a0 (g_mi M2 a0 22)))] M2 0 0
    generalize hv4 : (fX9_codeAt M2 a0 (g_mi M2 a0 22)) = v4
    replace H := H v4 hv4.symm
    refine g_istore 46 [(4, .int (v4)), (2, .long (w3)), (0, .ref a0), (1, .int (x1))] dX9_positiveOf_44 rfl (Nat.le_of_ble_eq_true rfl) rfl ?_
    refine g_aload_n 2 47 dX9_positiveOf_46 rfl rfl ?_
    refine g_dup 48 dX9_positiveOf_47 rfl rfl ?_
    refine g_getI 51 dX9_positiveOf_48 rfl flX9_269 (Sm.k j2 s0.1) ?_
    refine g_iconst (1) 52 dX9_positiveOf_51 rfl rfl ?_
    refine g_iadd 53 dX9_positiveOf_52 rfl ?_
    refine g_putI 56 dX9_positiveOf_53 rfl flX9_269 (Sm.k j2 s0.1) ?_
    generalize hM3 : (g_wi M2 a0 22 ((g_mi M2 a0 22) + 1)) = M3
    have j3 : Sm M M3 := by rw [← hM3]; exact (Sm.wi j2)
    replace H := H M3 hM3.symm
    refine g_aload_n 2 57 dX9_positiveOf_56 rfl rfl ?_
    refine g_iload_n 3 58 dX9_positiveOf_57 rfl rfl ?_
    refine g_callV (mc1 := 0) (ms1 := 0) (b := a0) (rest := []) (av := [.int (x1)]) kX9_sumOf 61 dX9_positiveOf_58 rfl rfl mbX9_296 imX9_sumOf seX9_sumOf gcl9.1 (Sm.k j3 s0.1) (Nat.le_of_ble_eq_true rfl) (Nat.zero_le _) (Nat.zero_le _) ((ih.2.2.2.2.2.2.2.1) d _ 0 0 _ M3 a0 x1 0 0 _ (by omega) (Mo.sm j3 s0) H (fun v5 w5 M4 jj H => ?_))
    have j4 : Sm M M4 := (Sm.tr j3 jj)
    show Go X (d + (n + 1) + 6) mc ms kX9_positiveOf Q 61 [(4, .int (v4)), (2, .long (w3)), (0, .ref a0), (1, .int (x1))] [.long (w5)] M4 0 0
    refine g_lstore 63 [(5, .long (w5)), (4, .int (v4)), (2, .long (w3)), (0, .ref a0), (1, .int (x1))] dX9_positiveOf_61 rfl (Nat.le_of_ble_eq_true rfl) rfl ?_
    refine g_iload_n 4 64 dX9_positiveOf_63 rfl rfl ?_
    refine g_if_eq 125 67 dX9_positiveOf_64 rfl rfl (fun c2 => ?_) (fun c2 => ?_)
    · skip
      replace H := H.1 c2
      refine g_iconst (0) 126 dX9_positiveOf_125 rfl rfl ?_
      exact g_zret dX9_positiveOf_126 rfl (by decide) (Nat.zero_le _) (Nat.zero_le _) (hR _ _ _ j4 H)
    · skip
      replace H := H.2 c2
      refine g_aload_n 3 68 dX9_positiveOf_67 rfl rfl ?_
      refine g_getI 71 dX9_positiveOf_68 rfl flX9_279 (Sm.k j4 s0.1) ?_
      refine g_if_ne 125 74 dX9_positiveOf_71 rfl rfl (fun c3 => ?_) (fun c3 => ?_)
      · skip
        replace H := H.1 c3
        refine g_iconst (0) 126 dX9_positiveOf_125 rfl rfl ?_
        exact g_zret dX9_positiveOf_126 rfl (by decide) (Nat.zero_le _) (Nat.zero_le _) (hR _ _ _ j4 H)
      · skip
        replace H := H.2 c3
        refine g_iload 1 76 dX9_positiveOf_74 rfl rfl ?_
        refine g_bipush (60) 78 dX9_positiveOf_76 rfl rfl ?_
        refine g_callS (mc1 := 0) (ms1 := 0) (rest := [.int (v4)]) (av := [.int (60)]) kX9_sign 81 dX9_positiveOf_78 rfl rfl mbX9_228 smX9_sign (Nat.le_of_ble_eq_true rfl) (Nat.zero_le _) (Nat.zero_le _) (tX9_sign  ?_)
        show Go X (d + (n + 1) + 6) mc ms kX9_positiveOf Q 81 [(5, .long (w5)), (4, .int (v4)), (2, .long (w3)), (0, .ref a0), (1, .int (x1))] [.int ((fX9_sign 60)), .int (v4)] M4 0 0
        generalize hv6 : (fX9_sign 60) = v6
        replace H := H v6 hv6.symm
        refine g_icmp_ne 94 84 dX9_positiveOf_81 rfl rfl (fun c4 => ?_) (fun c4 => ?_)
        · skip
          replace H := H.1 c4
          refine g_iload 1 96 dX9_positiveOf_94 rfl rfl ?_
          refine g_bipush (62) 98 dX9_positiveOf_96 rfl rfl ?_
          refine g_callS (mc1 := 0) (ms1 := 0) (rest := [.int (v4)]) (av := [.int (62)]) kX9_sign 101 dX9_positiveOf_98 rfl rfl mbX9_228 smX9_sign (Nat.le_of_ble_eq_true rfl) (Nat.zero_le _) (Nat.zero_le _) (tX9_sign  ?_)
          show Go X (d + (n + 1) + 6) mc ms kX9_positiveOf Q 101 [(5, .long (w5)), (4, .int (v4)), (2, .long (w3)), (0, .ref a0), (1, .int (x1))] [.int ((fX9_sign 62)), .int (v4)] M4 0 0
          generalize hv7 : (fX9_sign 62) = v7
          replace H := H v7 hv7.symm
          refine g_icmp_ne 114 104 dX9_positiveOf_101 rfl rfl (fun c5 => ?_) (fun c5 => ?_)
          · skip
            replace H := H.1 c5
            refine g_lload_n 2 115 dX9_positiveOf_114 rfl rfl ?_
            refine g_lload 0 117 dX9_positiveOf_115 rfl rfl ?_
            refine g_lcmp 118 dX9_positiveOf_117 rfl ?_
            refine g_if_ne 125 121 dX9_positiveOf_118 rfl rfl (fun c6 => ?_) (fun c6 => ?_)
            · skip
              replace H := H.1 c6
              refine g_iconst (0) 126 dX9_positiveOf_125 rfl rfl ?_
              exact g_zret dX9_positiveOf_126 rfl (by decide) (Nat.zero_le _) (Nat.zero_le _) (hR _ _ _ j4 H)
            · skip
              replace H := H.2 c6
              refine g_iconst (1) 122 dX9_positiveOf_121 rfl rfl ?_
              refine g_goto 126 dX9_positiveOf_122 rfl ?_
              exact g_zret dX9_positiveOf_126 rfl (by decide) (Nat.zero_le _) (Nat.zero_le _) (hR _ _ _ j4 H)
          · skip
            replace H := H.2 c5
            refine g_lload_n 2 105 dX9_positiveOf_104 rfl rfl ?_
            refine g_lload 0 107 dX9_positiveOf_105 rfl rfl ?_
            refine g_lcmp 108 dX9_positiveOf_107 rfl ?_
            refine g_if_le 125 111 dX9_positiveOf_108 rfl rfl (fun c7 => ?_) (fun c7 => ?_)
            · skip
              replace H := H.1 c7
              refine g_iconst (0) 126 dX9_positiveOf_125 rfl rfl ?_
              exact g_zret dX9_positiveOf_126 rfl (by decide) (Nat.zero_le _) (Nat.zero_le _) (hR _ _ _ j4 H)
            · skip
              replace H := H.2 c7
              refine g_goto 121 dX9_positiveOf_111 rfl ?_
              refine g_iconst (1) 122 dX9_positiveOf_121 rfl rfl ?_
              refine g_goto 126 dX9_positiveOf_122 rfl ?_
              exact g_zret dX9_positiveOf_126 rfl (by decide) (Nat.zero_le _) (Nat.zero_le _) (hR _ _ _ j4 H)
        · skip
          replace H := H.2 c4
          refine g_lload_n 2 85 dX9_positiveOf_84 rfl rfl ?_
          refine g_lload 0 87 dX9_positiveOf_85 rfl rfl ?_
          refine g_lcmp 88 dX9_positiveOf_87 rfl ?_
          refine g_if_ge 125 91 dX9_positiveOf_88 rfl rfl (fun c8 => ?_) (fun c8 => ?_)
          · skip
            replace H := H.1 c8
            refine g_iconst (0) 126 dX9_positiveOf_125 rfl rfl ?_
            exact g_zret dX9_positiveOf_126 rfl (by decide) (Nat.zero_le _) (Nat.zero_le _) (hR _ _ _ j4 H)
          · skip
            replace H := H.2 c8
            refine g_goto 121 dX9_positiveOf_91 rfl ?_
            refine g_iconst (1) 122 dX9_positiveOf_121 rfl rfl ?_
            refine g_goto 126 dX9_positiveOf_122 rfl ?_
            exact g_zret dX9_positiveOf_126 rfl (by decide) (Nat.zero_le _) (Nat.zero_le _) (hR _ _ _ j4 H)
  · skip
    replace H := H.2 c1
    refine g_aload_n 0 13 dX9_positiveOf_12 rfl rfl ?_
    refine g_iload_n 1 14 dX9_positiveOf_13 rfl rfl ?_
    refine g_callV (mc1 := 0) (ms1 := 0) (b := a0) (rest := []) (av := [.int (x1)]) kX9_testOf 17 dX9_positiveOf_14 rfl rfl mbX9_323 imX9_testOf seX9_testOf gcl9.1 (Sm.k j1 s0.1) (Nat.le_of_ble_eq_true rfl) (Nat.zero_le _) (Nat.zero_le _) ((ih.1) d _ 0 0 _ M1 a0 x1 0 0 _ (by omega) (Mo.sm j1 s0) H (fun v8 w8 M5 jj H => ?_))
    have j5 : Sm M M5 := (Sm.tr j1 jj)
    show Go X (d + (n + 1) + 6) mc ms kX9_positiveOf Q 17 [(0, .ref a0), (1, .int (x1))] [.int (v8)] M5 0 0
    refine g_istore_n 18 [(2, .int (v8)), (0, .ref a0), (1, .int (x1))] dX9_positiveOf_17 rfl (Nat.le_of_ble_eq_true rfl) rfl ?_
    refine g_aload_n 1 19 dX9_positiveOf_18 rfl rfl ?_
    refine g_dup 20 dX9_positiveOf_19 rfl rfl ?_
    refine g_getI 23 dX9_positiveOf_20 rfl flX9_269 (Sm.k j5 s0.1) ?_
    refine g_iconst (1) 24 dX9_positiveOf_23 rfl rfl ?_
    refine g_iadd 25 dX9_positiveOf_24 rfl ?_
    refine g_putI 28 dX9_positiveOf_25 rfl flX9_269 (Sm.k j5 s0.1) ?_
    generalize hM6 : (g_wi M5 a0 22 ((g_mi M5 a0 22) + 1)) = M6
    have j6 : Sm M M6 := by rw [← hM6]; exact (Sm.wi j5)
    replace H := H M6 hM6.symm
    refine g_iload_n 0 29 dX9_positiveOf_28 rfl rfl ?_
    obtain ⟨b2, H⟩ := H
    exact g_zret dX9_positiveOf_29 rfl b2 (Nat.zero_le _) (Nat.zero_le _) (hR _ _ _ j6 H)
set_option maxRecDepth 10000 in
theorem uzX9_sumOf_0 {X : gX} {N : Nat} {n : Nat} (ih : UgME X N n) : UX9_sumOf_0 X N (n + 1) := by
  intro d D mc ms Q M a0 x1 x2 y2 R hD s0 H hR
  subst hD
  rw [qgME, if_neg (show ¬ (7 : Nat) = 0 by decide), if_neg (show ¬ (7 : Nat) = 1 by decide), if_neg (show ¬ (7 : Nat) = 2 by decide), if_neg (show ¬ (7 : Nat) = 3 by decide), if_neg (show ¬ (7 : Nat) = 4 by decide), if_neg (show ¬ (7 : Nat) = 5 by decide), if_neg (show ¬ (7 : Nat) = 6 by decide), if_pos (show (7 : Nat) = 7 from rfl)] at H
  unfold pX9_sumOf_0 at H
  refine g_meth rfl rfl (Nat.le_of_ble_eq_true rfl) rfl ?_
  refine g_aload_n 0 1 dX9_sumOf_0 rfl rfl ?_
  refine g_iload_n 1 2 dX9_sumOf_1 rfl rfl ?_
  refine g_callV (mc1 := 0) (ms1 := 0) (b := a0) (rest := []) (av := [.int (x1)]) kX9_termOf 5 dX9_sumOf_2 rfl rfl mbX9_282 imX9_termOf seX9_termOf gcl9.1 s0.1 (Nat.le_of_ble_eq_true rfl) (Nat.zero_le _) (Nat.zero_le _) ((ih.2.2.2.2.2.2.2.2.2.1) d _ 0 0 _ M a0 x1 0 0 _ (by omega) s0 H (fun v1 w1 M1 jj H => ?_))
  have j1 : Sm M M1 := jj
  show Go X (d + (n + 1) + 6) mc ms kX9_sumOf Q 5 [(0, .ref a0), (1, .int (x1))] [.long (w1)] M1 0 0
  refine g_lstore_n 6 [(2, .long (w1)), (0, .ref a0), (1, .int (x1))] dX9_sumOf_5 rfl (Nat.le_of_ble_eq_true rfl) rfl ?_
  exact g_sub [1, 2, 0] _ rfl ((ih.2.2.2.2.2.2.2.2.1) (d + 1) _ _ _ _ M1 a0 x1 0 w1 _ (by omega) (Mo.sm j1 s0) H (fun v w M1 j r => hR v w M1 (Sm.tr j1 j) r))
set_option maxRecDepth 10000 in
theorem uzX9_sumOf_6 {X : gX} {N : Nat} {n : Nat} (ih : UgME X N n) : UX9_sumOf_6 X N (n + 1) := by
  intro d D mc ms Q M a0 x1 x2 y2 R hD s0 H hR
  subst hD
  rw [qgME, if_neg (show ¬ (8 : Nat) = 0 by decide), if_neg (show ¬ (8 : Nat) = 1 by decide), if_neg (show ¬ (8 : Nat) = 2 by decide), if_neg (show ¬ (8 : Nat) = 3 by decide), if_neg (show ¬ (8 : Nat) = 4 by decide), if_neg (show ¬ (8 : Nat) = 5 by decide), if_neg (show ¬ (8 : Nat) = 6 by decide), if_neg (show ¬ (8 : Nat) = 7 by decide), if_pos (show (8 : Nat) = 8 from rfl)] at H
  unfold pX9_sumOf_6 at H
  refine g_aload_n 0 7 dX9_sumOf_6 rfl rfl ?_
  refine g_aload_n 0 8 dX9_sumOf_7 rfl rfl ?_
  refine g_getI 11 dX9_sumOf_8 rfl flX9_269 s0.1 ?_
  obtain ⟨b1, H⟩ := H
  refine g_callV (mc1 := 0) (ms1 := 0) (b := a0) (rest := []) (av := [.int ((g_mi M a0 22))]) kX9_codeAt 14 dX9_sumOf_11 rfl rfl mbX9_272 imX9_codeAt seX9_codeAt gcl9.1 s0.1 (Nat.le_of_ble_eq_true rfl) (Nat.zero_le _) (Nat.zero_le _) (tX9_codeAt s0 b1 ?_)
  show Go X (d + (n + 1) + 6) mc ms kX9_sumOf Q 14 [(0, .ref a0), (1, .int (x1)), (2, .long (y2))] [.int ((fX9_codeAt M a0 (g_mi M a0 22)))] M 0 0
  generalize hv1 : (fX9_codeAt M a0 (g_mi M a0 22)) = v1
  replace H := H v1 hv1.symm
  refine g_bipush (43) 16 dX9_sumOf_14 rfl rfl ?_
  refine g_callS (mc1 := 0) (ms1 := 0) (rest := [.int (v1)]) (av := [.int (43)]) kX9_sign 19 dX9_sumOf_16 rfl rfl mbX9_228 smX9_sign (Nat.le_of_ble_eq_true rfl) (Nat.zero_le _) (Nat.zero_le _) (tX9_sign  ?_)
  show Go X (d + (n + 1) + 6) mc ms kX9_sumOf Q 19 [(0, .ref a0), (1, .int (x1)), (2, .long (y2))] [.int ((fX9_sign 43)), .int (v1)] M 0 0
  generalize hv2 : (fX9_sign 43) = v2
  replace H := H v2 hv2.symm
  refine g_icmp_eq 38 22 dX9_sumOf_19 rfl rfl (fun c1 => ?_) (fun c1 => ?_)
  · skip
    replace H := H.1 c1
    refine g_aload_n 0 39 dX9_sumOf_38 rfl rfl ?_
    refine g_aload_n 0 40 dX9_sumOf_39 rfl rfl ?_
    refine g_getI 43 dX9_sumOf_40 rfl flX9_269 s0.1 ?_
    refine g_callV (mc1 := 0) (ms1 := 0) (b := a0) (rest := []) (av := [.int ((g_mi M a0 22))]) kX9_codeAt 46 dX9_sumOf_43 rfl rfl mbX9_272 imX9_codeAt seX9_codeAt gcl9.1 s0.1 (Nat.le_of_ble_eq_true rfl) (Nat.zero_le _) (Nat.zero_le _) (tX9_codeAt s0 b1 ?_)
    show Go X (d + (n + 1) + 6) mc ms kX9_sumOf Q 46 [(0, .ref a0), (1, .int (x1)), (2, .long (y2))] [.int ((fX9_codeAt M a0 (g_mi M a0 22)))] M 0 0
    generalize hv3 : (fX9_codeAt M a0 (g_mi M a0 22)) = v3
    replace H := H v3 hv3.symm
    refine g_bipush (43) 48 dX9_sumOf_46 rfl rfl ?_
    refine g_callS (mc1 := 0) (ms1 := 0) (rest := [.int (v3)]) (av := [.int (43)]) kX9_sign 51 dX9_sumOf_48 rfl rfl mbX9_228 smX9_sign (Nat.le_of_ble_eq_true rfl) (Nat.zero_le _) (Nat.zero_le _) (tX9_sign  ?_)
    show Go X (d + (n + 1) + 6) mc ms kX9_sumOf Q 51 [(0, .ref a0), (1, .int (x1)), (2, .long (y2))] [.int ((fX9_sign 43)), .int (v3)] M 0 0
    generalize hv4 : (fX9_sign 43) = v4
    replace H := H v4 hv4.symm
    refine g_icmp_ne 58 54 dX9_sumOf_51 rfl rfl (fun c2 => ?_) (fun c2 => ?_)
    · skip
      replace H := H.1 c2
      refine g_iconst (0) 59 dX9_sumOf_58 rfl rfl ?_
      refine g_istore 61 [(4, .int (0)), (0, .ref a0), (1, .int (x1)), (2, .long (y2))] dX9_sumOf_59 rfl (Nat.le_of_ble_eq_true rfl) rfl ?_
      refine g_aload_n 1 62 dX9_sumOf_61 rfl rfl ?_
      refine g_dup 63 dX9_sumOf_62 rfl rfl ?_
      refine g_getI 66 dX9_sumOf_63 rfl flX9_269 s0.1 ?_
      refine g_iconst (1) 67 dX9_sumOf_66 rfl rfl ?_
      refine g_iadd 68 dX9_sumOf_67 rfl ?_
      refine g_putI 71 dX9_sumOf_68 rfl flX9_269 s0.1 ?_
      generalize hM1 : (g_wi M a0 22 ((g_mi M a0 22) + 1)) = M1
      have j1 : Sm M M1 := by rw [← hM1]; exact (Sm.wi Sm.rf)
      replace H := H M1 hM1.symm
      refine g_aload_n 1 72 dX9_sumOf_71 rfl rfl ?_
      refine g_iload_n 2 73 dX9_sumOf_72 rfl rfl ?_
      refine g_callV (mc1 := 0) (ms1 := 0) (b := a0) (rest := []) (av := [.int (x1)]) kX9_termOf 76 dX9_sumOf_73 rfl rfl mbX9_282 imX9_termOf seX9_termOf gcl9.1 (Sm.k j1 s0.1) (Nat.le_of_ble_eq_true rfl) (Nat.zero_le _) (Nat.zero_le _) ((ih.2.2.2.2.2.2.2.2.2.1) d _ 0 0 _ M1 a0 x1 0 0 _ (by omega) (Mo.sm j1 s0) H (fun v5 w5 M2 jj H => ?_))
      have j2 : Sm M M2 := (Sm.tr j1 jj)
      show Go X (d + (n + 1) + 6) mc ms kX9_sumOf Q 76 [(4, .int (0)), (0, .ref a0), (1, .int (x1)), (2, .long (y2))] [.long (w5)] M2 0 0
      refine g_lstore 78 [(5, .long (w5)), (4, .int (0)), (0, .ref a0), (1, .int (x1)), (2, .long (y2))] dX9_sumOf_76 rfl (Nat.le_of_ble_eq_true rfl) rfl ?_
      refine g_aload_n 2 79 dX9_sumOf_78 rfl rfl ?_
      refine g_iload 1 81 dX9_sumOf_79 rfl rfl ?_
      refine g_if_eq 91 84 dX9_sumOf_81 rfl rfl (fun _ => ?_) (fun q => absurd q (by decide))
      refine g_lload_n 4 92 dX9_sumOf_91 rfl rfl ?_
      refine g_lload 0 94 dX9_sumOf_92 rfl rfl ?_
      refine g_lsub 95 dX9_sumOf_94 rfl ?_
      refine g_iload_n 3 96 dX9_sumOf_95 rfl rfl ?_
      refine g_callV (mc1 := 0) (ms1 := 0) (b := a0) (rest := []) (av := [.long ((y2 - w5)), .int (x1)]) kX9_bounded 99 dX9_sumOf_96 rfl rfl mbX9_286 imX9_bounded seX9_bounded gcl9.1 (Sm.k j2 s0.1) (Nat.le_of_ble_eq_true rfl) (Nat.zero_le _) (Nat.zero_le _) (uX9_bounded (N := N) (K := 0) (Mo.sm j2 s0) H (fun v6 M3 jj H => ?_))
      have j3 : Sm M M3 := Sm.tr j2 jj
      show Go X (d + (n + 1) + 6) mc ms kX9_sumOf Q 99 [(5, .long (w5)), (4, .int (0)), (0, .ref a0), (1, .int (x1)), (2, .long (y2))] [.long (v6)] M3 0 0
      refine g_lstore_n 100 [(2, .long (v6)), (5, .long (w5)), (4, .int (0)), (0, .ref a0), (1, .int (x1))] dX9_sumOf_99 rfl (Nat.le_of_ble_eq_true rfl) rfl ?_
      refine g_goto 6 dX9_sumOf_100 rfl ?_
      exact g_sub [3, 4, 0] _ rfl ((ih.2.2.2.2.2.2.2.2.1) (d + 1) _ _ _ _ M3 a0 x1 0 v6 _ (by omega) (Mo.sm j3 s0) H (fun v w M1 j r => hR v w M1 (Sm.tr j3 j) r))
    · skip
      replace H := H.2 c2
      refine g_iconst (1) 55 dX9_sumOf_54 rfl rfl ?_
      refine g_goto 59 dX9_sumOf_55 rfl ?_
      refine g_istore 61 [(4, .int (1)), (0, .ref a0), (1, .int (x1)), (2, .long (y2))] dX9_sumOf_59 rfl (Nat.le_of_ble_eq_true rfl) rfl ?_
      refine g_aload_n 1 62 dX9_sumOf_61 rfl rfl ?_
      refine g_dup 63 dX9_sumOf_62 rfl rfl ?_
      refine g_getI 66 dX9_sumOf_63 rfl flX9_269 s0.1 ?_
      refine g_iconst (1) 67 dX9_sumOf_66 rfl rfl ?_
      refine g_iadd 68 dX9_sumOf_67 rfl ?_
      refine g_putI 71 dX9_sumOf_68 rfl flX9_269 s0.1 ?_
      generalize hM4 : (g_wi M a0 22 ((g_mi M a0 22) + 1)) = M4
      have j4 : Sm M M4 := by rw [← hM4]; exact (Sm.wi Sm.rf)
      replace H := H M4 hM4.symm
      refine g_aload_n 1 72 dX9_sumOf_71 rfl rfl ?_
      refine g_iload_n 2 73 dX9_sumOf_72 rfl rfl ?_
      refine g_callV (mc1 := 0) (ms1 := 0) (b := a0) (rest := []) (av := [.int (x1)]) kX9_termOf 76 dX9_sumOf_73 rfl rfl mbX9_282 imX9_termOf seX9_termOf gcl9.1 (Sm.k j4 s0.1) (Nat.le_of_ble_eq_true rfl) (Nat.zero_le _) (Nat.zero_le _) ((ih.2.2.2.2.2.2.2.2.2.1) d _ 0 0 _ M4 a0 x1 0 0 _ (by omega) (Mo.sm j4 s0) H (fun v7 w7 M5 jj H => ?_))
      have j5 : Sm M M5 := (Sm.tr j4 jj)
      show Go X (d + (n + 1) + 6) mc ms kX9_sumOf Q 76 [(4, .int (1)), (0, .ref a0), (1, .int (x1)), (2, .long (y2))] [.long (w7)] M5 0 0
      refine g_lstore 78 [(5, .long (w7)), (4, .int (1)), (0, .ref a0), (1, .int (x1)), (2, .long (y2))] dX9_sumOf_76 rfl (Nat.le_of_ble_eq_true rfl) rfl ?_
      refine g_aload_n 2 79 dX9_sumOf_78 rfl rfl ?_
      refine g_iload 1 81 dX9_sumOf_79 rfl rfl ?_
      refine g_if_eq 91 84 dX9_sumOf_81 rfl rfl (fun q => absurd q (by decide)) (fun _ => ?_)
      refine g_lload_n 4 85 dX9_sumOf_84 rfl rfl ?_
      refine g_lload 0 87 dX9_sumOf_85 rfl rfl ?_
      refine g_ladd 88 dX9_sumOf_87 rfl ?_
      refine g_goto 95 dX9_sumOf_88 rfl ?_
      refine g_iload_n 3 96 dX9_sumOf_95 rfl rfl ?_
      refine g_callV (mc1 := 0) (ms1 := 0) (b := a0) (rest := []) (av := [.long ((y2 + w7)), .int (x1)]) kX9_bounded 99 dX9_sumOf_96 rfl rfl mbX9_286 imX9_bounded seX9_bounded gcl9.1 (Sm.k j5 s0.1) (Nat.le_of_ble_eq_true rfl) (Nat.zero_le _) (Nat.zero_le _) (uX9_bounded (N := N) (K := 0) (Mo.sm j5 s0) H (fun v8 M6 jj H => ?_))
      have j6 : Sm M M6 := Sm.tr j5 jj
      show Go X (d + (n + 1) + 6) mc ms kX9_sumOf Q 99 [(5, .long (w7)), (4, .int (1)), (0, .ref a0), (1, .int (x1)), (2, .long (y2))] [.long (v8)] M6 0 0
      refine g_lstore_n 100 [(2, .long (v8)), (5, .long (w7)), (4, .int (1)), (0, .ref a0), (1, .int (x1))] dX9_sumOf_99 rfl (Nat.le_of_ble_eq_true rfl) rfl ?_
      refine g_goto 6 dX9_sumOf_100 rfl ?_
      exact g_sub [3, 4, 0] _ rfl ((ih.2.2.2.2.2.2.2.2.1) (d + 1) _ _ _ _ M6 a0 x1 0 v8 _ (by omega) (Mo.sm j6 s0) H (fun v w M1 j r => hR v w M1 (Sm.tr j6 j) r))
  · skip
    replace H := H.2 c1
    refine g_aload_n 0 23 dX9_sumOf_22 rfl rfl ?_
    refine g_aload_n 0 24 dX9_sumOf_23 rfl rfl ?_
    refine g_getI 27 dX9_sumOf_24 rfl flX9_269 s0.1 ?_
    refine g_callV (mc1 := 0) (ms1 := 0) (b := a0) (rest := []) (av := [.int ((g_mi M a0 22))]) kX9_codeAt 30 dX9_sumOf_27 rfl rfl mbX9_272 imX9_codeAt seX9_codeAt gcl9.1 s0.1 (Nat.le_of_ble_eq_true rfl) (Nat.zero_le _) (Nat.zero_le _) (tX9_codeAt s0 b1 ?_)
    show Go X (d + (n + 1) + 6) mc ms kX9_sumOf Q 30 [(0, .ref a0), (1, .int (x1)), (2, .long (y2))] [.int ((fX9_codeAt M a0 (g_mi M a0 22)))] M 0 0
    generalize hv9 : (fX9_codeAt M a0 (g_mi M a0 22)) = v9
    replace H := H v9 hv9.symm
    refine g_bipush (45) 32 dX9_sumOf_30 rfl rfl ?_
    refine g_callS (mc1 := 0) (ms1 := 0) (rest := [.int (v9)]) (av := [.int (45)]) kX9_sign 35 dX9_sumOf_32 rfl rfl mbX9_228 smX9_sign (Nat.le_of_ble_eq_true rfl) (Nat.zero_le _) (Nat.zero_le _) (tX9_sign  ?_)
    show Go X (d + (n + 1) + 6) mc ms kX9_sumOf Q 35 [(0, .ref a0), (1, .int (x1)), (2, .long (y2))] [.int ((fX9_sign 45)), .int (v9)] M 0 0
    generalize hv10 : (fX9_sign 45) = v10
    replace H := H v10 hv10.symm
    refine g_icmp_ne 103 38 dX9_sumOf_35 rfl rfl (fun c3 => ?_) (fun c3 => ?_)
    · skip
      replace H := H.1 c3
      refine g_lload_n 2 104 dX9_sumOf_103 rfl rfl ?_
      exact g_lret dX9_sumOf_104 rfl (Nat.zero_le _) (Nat.zero_le _) (hR _ _ _ Sm.rf H)
    · skip
      replace H := H.2 c3
      refine g_aload_n 0 39 dX9_sumOf_38 rfl rfl ?_
      refine g_aload_n 0 40 dX9_sumOf_39 rfl rfl ?_
      refine g_getI 43 dX9_sumOf_40 rfl flX9_269 s0.1 ?_
      refine g_callV (mc1 := 0) (ms1 := 0) (b := a0) (rest := []) (av := [.int ((g_mi M a0 22))]) kX9_codeAt 46 dX9_sumOf_43 rfl rfl mbX9_272 imX9_codeAt seX9_codeAt gcl9.1 s0.1 (Nat.le_of_ble_eq_true rfl) (Nat.zero_le _) (Nat.zero_le _) (tX9_codeAt s0 b1 ?_)
      show Go X (d + (n + 1) + 6) mc ms kX9_sumOf Q 46 [(0, .ref a0), (1, .int (x1)), (2, .long (y2))] [.int ((fX9_codeAt M a0 (g_mi M a0 22)))] M 0 0
      generalize hv11 : (fX9_codeAt M a0 (g_mi M a0 22)) = v11
      replace H := H v11 hv11.symm
      refine g_bipush (43) 48 dX9_sumOf_46 rfl rfl ?_
      refine g_callS (mc1 := 0) (ms1 := 0) (rest := [.int (v11)]) (av := [.int (43)]) kX9_sign 51 dX9_sumOf_48 rfl rfl mbX9_228 smX9_sign (Nat.le_of_ble_eq_true rfl) (Nat.zero_le _) (Nat.zero_le _) (tX9_sign  ?_)
      show Go X (d + (n + 1) + 6) mc ms kX9_sumOf Q 51 [(0, .ref a0), (1, .int (x1)), (2, .long (y2))] [.int ((fX9_sign 43)), .int (v11)] M 0 0
      generalize hv12 : (fX9_sign 43) = v12
      replace H := H v12 hv12.symm
      refine g_icmp_ne 58 54 dX9_sumOf_51 rfl rfl (fun c4 => ?_) (fun c4 => ?_)
      · skip
        replace H := H.1 c4
        refine g_iconst (0) 59 dX9_sumOf_58 rfl rfl ?_
        refine g_istore 61 [(4, .int (0)), (0, .ref a0), (1, .int (x1)), (2, .long (y2))] dX9_sumOf_59 rfl (Nat.le_of_ble_eq_true rfl) rfl ?_
        refine g_aload_n 1 62 dX9_sumOf_61 rfl rfl ?_
        refine g_dup 63 dX9_sumOf_62 rfl rfl ?_
        refine g_getI 66 dX9_sumOf_63 rfl flX9_269 s0.1 ?_
        refine g_iconst (1) 67 dX9_sumOf_66 rfl rfl ?_
        refine g_iadd 68 dX9_sumOf_67 rfl ?_
        refine g_putI 71 dX9_sumOf_68 rfl flX9_269 s0.1 ?_
        generalize hM7 : (g_wi M a0 22 ((g_mi M a0 22) + 1)) = M7
        have j7 : Sm M M7 := by rw [← hM7]; exact (Sm.wi Sm.rf)
        replace H := H M7 hM7.symm
        refine g_aload_n 1 72 dX9_sumOf_71 rfl rfl ?_
        refine g_iload_n 2 73 dX9_sumOf_72 rfl rfl ?_
        refine g_callV (mc1 := 0) (ms1 := 0) (b := a0) (rest := []) (av := [.int (x1)]) kX9_termOf 76 dX9_sumOf_73 rfl rfl mbX9_282 imX9_termOf seX9_termOf gcl9.1 (Sm.k j7 s0.1) (Nat.le_of_ble_eq_true rfl) (Nat.zero_le _) (Nat.zero_le _) ((ih.2.2.2.2.2.2.2.2.2.1) d _ 0 0 _ M7 a0 x1 0 0 _ (by omega) (Mo.sm j7 s0) H (fun v13 w13 M8 jj H => ?_))
        have j8 : Sm M M8 := (Sm.tr j7 jj)
        show Go X (d + (n + 1) + 6) mc ms kX9_sumOf Q 76 [(4, .int (0)), (0, .ref a0), (1, .int (x1)), (2, .long (y2))] [.long (w13)] M8 0 0
        refine g_lstore 78 [(5, .long (w13)), (4, .int (0)), (0, .ref a0), (1, .int (x1)), (2, .long (y2))] dX9_sumOf_76 rfl (Nat.le_of_ble_eq_true rfl) rfl ?_
        refine g_aload_n 2 79 dX9_sumOf_78 rfl rfl ?_
        refine g_iload 1 81 dX9_sumOf_79 rfl rfl ?_
        refine g_if_eq 91 84 dX9_sumOf_81 rfl rfl (fun _ => ?_) (fun q => absurd q (by decide))
        refine g_lload_n 4 92 dX9_sumOf_91 rfl rfl ?_
        refine g_lload 0 94 dX9_sumOf_92 rfl rfl ?_
        refine g_lsub 95 dX9_sumOf_94 rfl ?_
        refine g_iload_n 3 96 dX9_sumOf_95 rfl rfl ?_
        refine g_callV (mc1 := 0) (ms1 := 0) (b := a0) (rest := []) (av := [.long ((y2 - w13)), .int (x1)]) kX9_bounded 99 dX9_sumOf_96 rfl rfl mbX9_286 imX9_bounded seX9_bounded gcl9.1 (Sm.k j8 s0.1) (Nat.le_of_ble_eq_true rfl) (Nat.zero_le _) (Nat.zero_le _) (uX9_bounded (N := N) (K := 0) (Mo.sm j8 s0) H (fun v14 M9 jj H => ?_))
        have j9 : Sm M M9 := Sm.tr j8 jj
        show Go X (d + (n + 1) + 6) mc ms kX9_sumOf Q 99 [(5, .long (w13)), (4, .int (0)), (0, .ref a0), (1, .int (x1)), (2, .long (y2))] [.long (v14)] M9 0 0
        refine g_lstore_n 100 [(2, .long (v14)), (5, .long (w13)), (4, .int (0)), (0, .ref a0), (1, .int (x1))] dX9_sumOf_99 rfl (Nat.le_of_ble_eq_true rfl) rfl ?_
        refine g_goto 6 dX9_sumOf_100 rfl ?_
        exact g_sub [3, 4, 0] _ rfl ((ih.2.2.2.2.2.2.2.2.1) (d + 1) _ _ _ _ M9 a0 x1 0 v14 _ (by omega) (Mo.sm j9 s0) H (fun v w M1 j r => hR v w M1 (Sm.tr j9 j) r))
      · skip
        replace H := H.2 c4
        refine g_iconst (1) 55 dX9_sumOf_54 rfl rfl ?_
        refine g_goto 59 dX9_sumOf_55 rfl ?_
        refine g_istore 61 [(4, .int (1)), (0, .ref a0), (1, .int (x1)), (2, .long (y2))] dX9_sumOf_59 rfl (Nat.le_of_ble_eq_true rfl) rfl ?_
        refine g_aload_n 1 62 dX9_sumOf_61 rfl rfl ?_
        refine g_dup 63 dX9_sumOf_62 rfl rfl ?_
        refine g_getI 66 dX9_sumOf_63 rfl flX9_269 s0.1 ?_
        refine g_iconst (1) 67 dX9_sumOf_66 rfl rfl ?_
        refine g_iadd 68 dX9_sumOf_67 rfl ?_
        refine g_putI 71 dX9_sumOf_68 rfl flX9_269 s0.1 ?_
        generalize hM10 : (g_wi M a0 22 ((g_mi M a0 22) + 1)) = M10
        have j10 : Sm M M10 := by rw [← hM10]; exact (Sm.wi Sm.rf)
        replace H := H M10 hM10.symm
        refine g_aload_n 1 72 dX9_sumOf_71 rfl rfl ?_
        refine g_iload_n 2 73 dX9_sumOf_72 rfl rfl ?_
        refine g_callV (mc1 := 0) (ms1 := 0) (b := a0) (rest := []) (av := [.int (x1)]) kX9_termOf 76 dX9_sumOf_73 rfl rfl mbX9_282 imX9_termOf seX9_termOf gcl9.1 (Sm.k j10 s0.1) (Nat.le_of_ble_eq_true rfl) (Nat.zero_le _) (Nat.zero_le _) ((ih.2.2.2.2.2.2.2.2.2.1) d _ 0 0 _ M10 a0 x1 0 0 _ (by omega) (Mo.sm j10 s0) H (fun v15 w15 M11 jj H => ?_))
        have j11 : Sm M M11 := (Sm.tr j10 jj)
        show Go X (d + (n + 1) + 6) mc ms kX9_sumOf Q 76 [(4, .int (1)), (0, .ref a0), (1, .int (x1)), (2, .long (y2))] [.long (w15)] M11 0 0
        refine g_lstore 78 [(5, .long (w15)), (4, .int (1)), (0, .ref a0), (1, .int (x1)), (2, .long (y2))] dX9_sumOf_76 rfl (Nat.le_of_ble_eq_true rfl) rfl ?_
        refine g_aload_n 2 79 dX9_sumOf_78 rfl rfl ?_
        refine g_iload 1 81 dX9_sumOf_79 rfl rfl ?_
        refine g_if_eq 91 84 dX9_sumOf_81 rfl rfl (fun q => absurd q (by decide)) (fun _ => ?_)
        refine g_lload_n 4 85 dX9_sumOf_84 rfl rfl ?_
        refine g_lload 0 87 dX9_sumOf_85 rfl rfl ?_
        refine g_ladd 88 dX9_sumOf_87 rfl ?_
        refine g_goto 95 dX9_sumOf_88 rfl ?_
        refine g_iload_n 3 96 dX9_sumOf_95 rfl rfl ?_
        refine g_callV (mc1 := 0) (ms1 := 0) (b := a0) (rest := []) (av := [.long ((y2 + w15)), .int (x1)]) kX9_bounded 99 dX9_sumOf_96 rfl rfl mbX9_286 imX9_bounded seX9_bounded gcl9.1 (Sm.k j11 s0.1) (Nat.le_of_ble_eq_true rfl) (Nat.zero_le _) (Nat.zero_le _) (uX9_bounded (N := N) (K := 0) (Mo.sm j11 s0) H (fun v16 M12 jj H => ?_))
        have j12 : Sm M M12 := Sm.tr j11 jj
        show Go X (d + (n + 1) + 6) mc ms kX9_sumOf Q 99 [(5, .long (w15)), (4, .int (1)), (0, .ref a0), (1, .int (x1)), (2, .long (y2))] [.long (v16)] M12 0 0
        refine g_lstore_n 100 [(2, .long (v16)), (5, .long (w15)), (4, .int (1)), (0, .ref a0), (1, .int (x1))] dX9_sumOf_99 rfl (Nat.le_of_ble_eq_true rfl) rfl ?_
        refine g_goto 6 dX9_sumOf_100 rfl ?_
        exact g_sub [3, 4, 0] _ rfl ((ih.2.2.2.2.2.2.2.2.1) (d + 1) _ _ _ _ M12 a0 x1 0 v16 _ (by omega) (Mo.sm j12 s0) H (fun v w M1 j r => hR v w M1 (Sm.tr j12 j) r))
set_option maxRecDepth 10000 in
theorem uzX9_termOf_0 {X : gX} {N : Nat} {n : Nat} (ih : UgME X N n) : UX9_termOf_0 X N (n + 1) := by
  intro d D mc ms Q M a0 x1 x2 y2 R hD s0 H hR
  subst hD
  rw [qgME, if_neg (show ¬ (9 : Nat) = 0 by decide), if_neg (show ¬ (9 : Nat) = 1 by decide), if_neg (show ¬ (9 : Nat) = 2 by decide), if_neg (show ¬ (9 : Nat) = 3 by decide), if_neg (show ¬ (9 : Nat) = 4 by decide), if_neg (show ¬ (9 : Nat) = 5 by decide), if_neg (show ¬ (9 : Nat) = 6 by decide), if_neg (show ¬ (9 : Nat) = 7 by decide), if_neg (show ¬ (9 : Nat) = 8 by decide), if_pos (show (9 : Nat) = 9 from rfl)] at H
  unfold pX9_termOf_0 at H
  refine g_meth rfl rfl (Nat.le_of_ble_eq_true rfl) rfl ?_
  refine g_aload_n 0 1 dX9_termOf_0 rfl rfl ?_
  refine g_iload_n 1 2 dX9_termOf_1 rfl rfl ?_
  refine g_callV (mc1 := 0) (ms1 := 0) (b := a0) (rest := []) (av := [.int (x1)]) kX9_partOf 5 dX9_termOf_2 rfl rfl mbX9_290 imX9_partOf seX9_partOf gcl9.1 s0.1 (Nat.le_of_ble_eq_true rfl) (Nat.zero_le _) (Nat.zero_le _) ((ih.2.2.2.2.2.2.2.2.2.2.2) d _ 0 0 _ M a0 x1 0 0 _ (by omega) s0 H (fun v1 w1 M1 jj H => ?_))
  have j1 : Sm M M1 := jj
  show Go X (d + (n + 1) + 6) mc ms kX9_termOf Q 5 [(0, .ref a0), (1, .int (x1))] [.long (w1)] M1 0 0
  refine g_lstore_n 6 [(2, .long (w1)), (0, .ref a0), (1, .int (x1))] dX9_termOf_5 rfl (Nat.le_of_ble_eq_true rfl) rfl ?_
  exact g_sub [1, 2, 0] _ rfl ((ih.2.2.2.2.2.2.2.2.2.2.1) (d + 1) _ _ _ _ M1 a0 x1 0 w1 _ (by omega) (Mo.sm j1 s0) H (fun v w M1 j r => hR v w M1 (Sm.tr j1 j) r))
set_option maxRecDepth 10000 in
theorem uzX9_termOf_6 {X : gX} {N : Nat} {n : Nat} (ih : UgME X N n) : UX9_termOf_6 X N (n + 1) := by
  intro d D mc ms Q M a0 x1 x2 y2 R hD s0 H hR
  subst hD
  rw [qgME, if_neg (show ¬ (10 : Nat) = 0 by decide), if_neg (show ¬ (10 : Nat) = 1 by decide), if_neg (show ¬ (10 : Nat) = 2 by decide), if_neg (show ¬ (10 : Nat) = 3 by decide), if_neg (show ¬ (10 : Nat) = 4 by decide), if_neg (show ¬ (10 : Nat) = 5 by decide), if_neg (show ¬ (10 : Nat) = 6 by decide), if_neg (show ¬ (10 : Nat) = 7 by decide), if_neg (show ¬ (10 : Nat) = 8 by decide), if_neg (show ¬ (10 : Nat) = 9 by decide), if_pos (show (10 : Nat) = 10 from rfl)] at H
  unfold pX9_termOf_6 at H
  refine g_aload_n 0 7 dX9_termOf_6 rfl rfl ?_
  refine g_aload_n 0 8 dX9_termOf_7 rfl rfl ?_
  refine g_getI 11 dX9_termOf_8 rfl flX9_269 s0.1 ?_
  obtain ⟨b1, H⟩ := H
  refine g_callV (mc1 := 0) (ms1 := 0) (b := a0) (rest := []) (av := [.int ((g_mi M a0 22))]) kX9_codeAt 14 dX9_termOf_11 rfl rfl mbX9_272 imX9_codeAt seX9_codeAt gcl9.1 s0.1 (Nat.le_of_ble_eq_true rfl) (Nat.zero_le _) (Nat.zero_le _) (tX9_codeAt s0 b1 ?_)
  show Go X (d + (n + 1) + 6) mc ms kX9_termOf Q 14 [(0, .ref a0), (1, .int (x1)), (2, .long (y2))] [.int ((fX9_codeAt M a0 (g_mi M a0 22)))] M 0 0
  generalize hv1 : (fX9_codeAt M a0 (g_mi M a0 22)) = v1
  replace H := H v1 hv1.symm
  refine g_bipush (42) 16 dX9_termOf_14 rfl rfl ?_
  refine g_callS (mc1 := 0) (ms1 := 0) (rest := [.int (v1)]) (av := [.int (42)]) kX9_sign 19 dX9_termOf_16 rfl rfl mbX9_228 smX9_sign (Nat.le_of_ble_eq_true rfl) (Nat.zero_le _) (Nat.zero_le _) (tX9_sign  ?_)
  show Go X (d + (n + 1) + 6) mc ms kX9_termOf Q 19 [(0, .ref a0), (1, .int (x1)), (2, .long (y2))] [.int ((fX9_sign 42)), .int (v1)] M 0 0
  generalize hv2 : (fX9_sign 42) = v2
  replace H := H v2 hv2.symm
  refine g_icmp_eq 54 22 dX9_termOf_19 rfl rfl (fun c1 => ?_) (fun c1 => ?_)
  · skip
    replace H := H.1 c1
    exact uxX9_termOf_54 ih s0 H (fun v w M1 j r => hR v w M1 j r)
  · skip
    replace H := H.2 c1
    refine g_aload_n 0 23 dX9_termOf_22 rfl rfl ?_
    refine g_aload_n 0 24 dX9_termOf_23 rfl rfl ?_
    refine g_getI 27 dX9_termOf_24 rfl flX9_269 s0.1 ?_
    refine g_callV (mc1 := 0) (ms1 := 0) (b := a0) (rest := []) (av := [.int ((g_mi M a0 22))]) kX9_codeAt 30 dX9_termOf_27 rfl rfl mbX9_272 imX9_codeAt seX9_codeAt gcl9.1 s0.1 (Nat.le_of_ble_eq_true rfl) (Nat.zero_le _) (Nat.zero_le _) (tX9_codeAt s0 b1 ?_)
    show Go X (d + (n + 1) + 6) mc ms kX9_termOf Q 30 [(0, .ref a0), (1, .int (x1)), (2, .long (y2))] [.int ((fX9_codeAt M a0 (g_mi M a0 22)))] M 0 0
    generalize hv3 : (fX9_codeAt M a0 (g_mi M a0 22)) = v3
    replace H := H v3 hv3.symm
    refine g_bipush (47) 32 dX9_termOf_30 rfl rfl ?_
    refine g_callS (mc1 := 0) (ms1 := 0) (rest := [.int (v3)]) (av := [.int (47)]) kX9_sign 35 dX9_termOf_32 rfl rfl mbX9_228 smX9_sign (Nat.le_of_ble_eq_true rfl) (Nat.zero_le _) (Nat.zero_le _) (tX9_sign  ?_)
    show Go X (d + (n + 1) + 6) mc ms kX9_termOf Q 35 [(0, .ref a0), (1, .int (x1)), (2, .long (y2))] [.int ((fX9_sign 47)), .int (v3)] M 0 0
    generalize hv4 : (fX9_sign 47) = v4
    replace H := H v4 hv4.symm
    refine g_icmp_eq 54 38 dX9_termOf_35 rfl rfl (fun c2 => ?_) (fun c2 => ?_)
    · skip
      replace H := H.1 c2
      exact uxX9_termOf_54 ih s0 H (fun v w M1 j r => hR v w M1 j r)
    · skip
      replace H := H.2 c2
      refine g_aload_n 0 39 dX9_termOf_38 rfl rfl ?_
      refine g_aload_n 0 40 dX9_termOf_39 rfl rfl ?_
      refine g_getI 43 dX9_termOf_40 rfl flX9_269 s0.1 ?_
      refine g_callV (mc1 := 0) (ms1 := 0) (b := a0) (rest := []) (av := [.int ((g_mi M a0 22))]) kX9_codeAt 46 dX9_termOf_43 rfl rfl mbX9_272 imX9_codeAt seX9_codeAt gcl9.1 s0.1 (Nat.le_of_ble_eq_true rfl) (Nat.zero_le _) (Nat.zero_le _) (tX9_codeAt s0 b1 ?_)
      show Go X (d + (n + 1) + 6) mc ms kX9_termOf Q 46 [(0, .ref a0), (1, .int (x1)), (2, .long (y2))] [.int ((fX9_codeAt M a0 (g_mi M a0 22)))] M 0 0
      generalize hv5 : (fX9_codeAt M a0 (g_mi M a0 22)) = v5
      replace H := H v5 hv5.symm
      refine g_bipush (37) 48 dX9_termOf_46 rfl rfl ?_
      refine g_callS (mc1 := 0) (ms1 := 0) (rest := [.int (v5)]) (av := [.int (37)]) kX9_sign 51 dX9_termOf_48 rfl rfl mbX9_228 smX9_sign (Nat.le_of_ble_eq_true rfl) (Nat.zero_le _) (Nat.zero_le _) (tX9_sign  ?_)
      show Go X (d + (n + 1) + 6) mc ms kX9_termOf Q 51 [(0, .ref a0), (1, .int (x1)), (2, .long (y2))] [.int ((fX9_sign 37)), .int (v5)] M 0 0
      generalize hv6 : (fX9_sign 37) = v6
      replace H := H v6 hv6.symm
      refine g_icmp_ne 168 54 dX9_termOf_51 rfl rfl (fun c3 => ?_) (fun c3 => ?_)
      · skip
        replace H := H.1 c3
        refine g_lload_n 2 169 dX9_termOf_168 rfl rfl ?_
        exact g_lret dX9_termOf_169 rfl (Nat.zero_le _) (Nat.zero_le _) (hR _ _ _ Sm.rf H)
      · skip
        replace H := H.2 c3
        exact uxX9_termOf_54 ih s0 H (fun v w M1 j r => hR v w M1 j r)
set_option maxRecDepth 10000 in
theorem uzX9_partOf_0 {X : gX} {N : Nat} {n : Nat} (ih : UgME X N n) : UX9_partOf_0 X N (n + 1) := by
  intro d D mc ms Q M a0 x1 x2 y2 R hD s0 H hR
  subst hD
  rw [qgME, if_neg (show ¬ (11 : Nat) = 0 by decide), if_neg (show ¬ (11 : Nat) = 1 by decide), if_neg (show ¬ (11 : Nat) = 2 by decide), if_neg (show ¬ (11 : Nat) = 3 by decide), if_neg (show ¬ (11 : Nat) = 4 by decide), if_neg (show ¬ (11 : Nat) = 5 by decide), if_neg (show ¬ (11 : Nat) = 6 by decide), if_neg (show ¬ (11 : Nat) = 7 by decide), if_neg (show ¬ (11 : Nat) = 8 by decide), if_neg (show ¬ (11 : Nat) = 9 by decide), if_neg (show ¬ (11 : Nat) = 10 by decide)] at H
  unfold pX9_partOf_0 at H
  refine g_meth rfl rfl (Nat.le_of_ble_eq_true rfl) rfl ?_
  refine g_aload_n 0 1 dX9_partOf_0 rfl rfl ?_
  refine g_bipush (91) 3 dX9_partOf_1 rfl rfl ?_
  refine g_callS (mc1 := 0) (ms1 := 0) (rest := [.ref a0]) (av := [.int (91)]) kX9_sign 6 dX9_partOf_3 rfl rfl mbX9_228 smX9_sign (Nat.le_of_ble_eq_true rfl) (Nat.zero_le _) (Nat.zero_le _) (tX9_sign  ?_)
  show Go X (d + (n + 1) + 6) mc ms kX9_partOf Q 6 [(0, .ref a0), (1, .int (x1))] [.int ((fX9_sign 91)), .ref a0] M 0 0
  generalize hv1 : (fX9_sign 91) = v1
  replace H := H v1 hv1.symm
  refine g_callV (mc1 := 0) (ms1 := 0) (b := a0) (rest := []) (av := [.int (v1)]) kX9_passes0 9 dX9_partOf_6 rfl rfl mbX9_293 imX9_passes0 seX9_passes0 gcl9.1 s0.1 (Nat.le_of_ble_eq_true rfl) (Nat.zero_le _) (Nat.zero_le _) (uX9_passes0 (N := N) (K := 0) s0 H (fun v2 M1 jj H => ?_))
  have j1 : Sm M M1 := jj
  show Go X (d + (n + 1) + 6) mc ms kX9_partOf Q 9 [(0, .ref a0), (1, .int (x1))] [.int (v2)] M1 0 0
  refine g_if_eq 30 12 dX9_partOf_9 rfl rfl (fun c1 => ?_) (fun c1 => ?_)
  · skip
    replace H := H.1 c1
    refine g_aload_n 0 31 dX9_partOf_30 rfl rfl ?_
    refine g_aload_n 0 32 dX9_partOf_31 rfl rfl ?_
    refine g_getI 35 dX9_partOf_32 rfl flX9_269 (Sm.k j1 s0.1) ?_
    obtain ⟨b1, H⟩ := H
    refine g_callV (mc1 := 0) (ms1 := 0) (b := a0) (rest := []) (av := [.int ((g_mi M1 a0 22))]) kX9_codeAt 38 dX9_partOf_35 rfl rfl mbX9_272 imX9_codeAt seX9_codeAt gcl9.1 (Sm.k j1 s0.1) (Nat.le_of_ble_eq_true rfl) (Nat.zero_le _) (Nat.zero_le _) (tX9_codeAt (Mo.sm j1 s0) b1 ?_)
    show Go X (d + (n + 1) + 6) mc ms kX9_partOf Q 38 [(0, .ref a0), (1, .int (x1))] [.int ((fX9_codeAt M1 a0 (g_mi M1 a0 22)))] M1 0 0
    generalize hv3 : (fX9_codeAt M1 a0 (g_mi M1 a0 22)) = v3
    replace H := H v3 hv3.symm
    refine g_istore_n 39 [(2, .int (v3)), (0, .ref a0), (1, .int (x1))] dX9_partOf_38 rfl (Nat.le_of_ble_eq_true rfl) rfl ?_
    refine g_iconst (0) 40 dX9_partOf_39 rfl rfl ?_
    refine g_istore_n 41 [(3, .int (0)), (2, .int (v3)), (0, .ref a0), (1, .int (x1))] dX9_partOf_40 rfl (Nat.le_of_ble_eq_true rfl) rfl ?_
    refine g_aload_n 2 42 dX9_partOf_41 rfl rfl ?_
    refine g_dup 43 dX9_partOf_42 rfl rfl ?_
    refine g_getI 46 dX9_partOf_43 rfl flX9_269 (Sm.k j1 s0.1) ?_
    refine g_iconst (1) 47 dX9_partOf_46 rfl rfl ?_
    refine g_iadd 48 dX9_partOf_47 rfl ?_
    refine g_putI 51 dX9_partOf_48 rfl flX9_269 (Sm.k j1 s0.1) ?_
    generalize hM2 : (g_wi M1 a0 22 ((g_mi M1 a0 22) + 1)) = M2
    have j2 : Sm M M2 := by rw [← hM2]; exact (Sm.wi j1)
    replace H := H M2 hM2.symm
    refine g_aload_n 2 52 dX9_partOf_51 rfl rfl ?_
    refine g_getI 55 dX9_partOf_52 rfl flX9_299 (Sm.k j2 s0.1) ?_
    refine g_if_eq 94 58 dX9_partOf_55 rfl rfl (fun c2 => ?_) (fun c2 => ?_)
    · skip
      replace H := H.1 c2
      refine g_iload_n 3 95 dX9_partOf_94 rfl rfl ?_
      refine g_if_eq 105 98 dX9_partOf_95 rfl rfl (fun c3 => ?_) (fun c3 => ?_)
      · skip
        replace H := H.1 c3
        refine g_lconst (0) 106 dX9_partOf_105 rfl rfl ?_
        exact g_lret dX9_partOf_106 rfl (Nat.zero_le _) (Nat.zero_le _) (hR _ _ _ j2 H)
      · skip
        replace H := H.2 c3
        refine g_aload_n 2 99 dX9_partOf_98 rfl rfl ?_
        refine g_getI 102 dX9_partOf_99 rfl flX9_279 (Sm.k j2 s0.1) ?_
        refine g_if_eq 107 105 dX9_partOf_102 rfl rfl (fun c4 => ?_) (fun c4 => ?_)
        · skip
          replace H := H.1 c4
          refine g_iload_n 1 108 dX9_partOf_107 rfl rfl ?_
          refine g_bipush (50) 110 dX9_partOf_108 rfl rfl ?_
          refine g_icmp_ne 130 113 dX9_partOf_110 rfl rfl (fun c5 => ?_) (fun c5 => ?_)
          · skip
            replace H := H.1 c5
            refine g_aload_n 2 131 dX9_partOf_130 rfl rfl ?_
            refine g_getI 134 dX9_partOf_131 rfl flX9_299 (Sm.k j2 s0.1) ?_
            refine g_if_eq 147 137 dX9_partOf_134 rfl rfl (fun _ => ?_) (fun q => absurd c2 q)
            refine g_aload_n 2 148 dX9_partOf_147 rfl rfl ?_
            refine g_getR 151 (a0 + 12) dX9_partOf_148 rfl flX9_63 (Sm.k j2 s0.1) (Sm.r j2 s0.2.2.2.2.2.2.2.2.2.2.2.2.2.2.2.2.2.2.2.2.2.2.2.1) ?_
            refine g_iload_n 1 152 dX9_partOf_151 rfl rfl ?_
            refine g_bipush (7) 154 dX9_partOf_152 rfl rfl ?_
            refine g_isub 155 dX9_partOf_154 rfl ?_
            obtain ⟨b2, H⟩ := H
            refine h_iaload 156 ((v3 - 7)).toNatClampNeg dX9_partOf_155 rfl rfl (Sm.k j2 s0.2.2.2.2.2.2.2.2.2.2.2.2.2.2.2.2.2.2.2.2.2.2.2.2.1) b2 ?_
            refine g_i2l 157 dX9_partOf_156 rfl ?_
            exact g_lret dX9_partOf_157 rfl (Nat.zero_le _) (Nat.zero_le _) (hR _ _ _ j2 H)
          · skip
            replace H := H.2 c5
            refine g_aload_n 2 114 dX9_partOf_113 rfl rfl ?_
            refine g_getR 117 (a0 + 2) dX9_partOf_114 rfl flX9_28 (Sm.k j2 s0.1) (Sm.r j2 s0.2.2.2.1) ?_
            refine g_sipush (3012) 120 dX9_partOf_117 rfl rfl ?_
            refine g_aload_n 2 121 dX9_partOf_120 rfl rfl ?_
            refine g_getI 124 dX9_partOf_121 rfl flX9_269 (Sm.k j2 s0.1) ?_
            refine g_iadd 125 dX9_partOf_124 rfl ?_
            refine g_iconst (1) 126 dX9_partOf_125 rfl rfl ?_
            refine g_isub 127 dX9_partOf_126 rfl ?_
            obtain ⟨b3, H⟩ := H
            refine h_iaload 128 (((3012 + (g_mi M2 a0 22)) - 1)).toNatClampNeg dX9_partOf_127 rfl rfl (Sm.k j2 s0.2.2.2.2.1) b3 ?_
            refine g_i2l 129 dX9_partOf_128 rfl ?_
            exact g_lret dX9_partOf_129 rfl (Nat.zero_le _) (Nat.zero_le _) (hR _ _ _ j2 H)
        · skip
          replace H := H.2 c4
          refine g_lconst (0) 106 dX9_partOf_105 rfl rfl ?_
          exact g_lret dX9_partOf_106 rfl (Nat.zero_le _) (Nat.zero_le _) (hR _ _ _ j2 H)
    · skip
      replace H := H.2 c2
      refine g_iload_n 1 59 dX9_partOf_58 rfl rfl ?_
      refine g_bipush (12) 61 dX9_partOf_59 rfl rfl ?_
      refine g_icmp_eq 70 64 dX9_partOf_61 rfl rfl (fun c6 => ?_) (fun c6 => ?_)
      · skip
        replace H := H.1 c6
        refine g_aload_n 2 71 dX9_partOf_70 rfl rfl ?_
        refine g_getR 74 (a0 + 2) dX9_partOf_71 rfl flX9_28 (Sm.k j2 s0.1) (Sm.r j2 s0.2.2.2.1) ?_
        refine g_sipush (3012) 77 dX9_partOf_74 rfl rfl ?_
        refine g_aload_n 2 78 dX9_partOf_77 rfl rfl ?_
        refine g_getI 81 dX9_partOf_78 rfl flX9_269 (Sm.k j2 s0.1) ?_
        refine g_iadd 82 dX9_partOf_81 rfl ?_
        obtain ⟨b4, H⟩ := H
        refine h_iaload 83 ((3012 + (g_mi M2 a0 22))).toNatClampNeg dX9_partOf_82 rfl rfl (Sm.k j2 s0.2.2.2.2.1) b4 ?_
        refine g_istore_n 84 [(3, .int ((g_mi M2 (a0 + 2) ((3012 + (g_mi M2 a0 22))).toNatClampNeg))), (2, .int (v3)), (0, .ref a0), (1, .int (x1))] dX9_partOf_83 rfl (Nat.le_of_ble_eq_true rfl) rfl ?_
        refine g_aload_n 2 85 dX9_partOf_84 rfl rfl ?_
        refine g_dup 86 dX9_partOf_85 rfl rfl ?_
        refine g_getI 89 dX9_partOf_86 rfl flX9_269 (Sm.k j2 s0.1) ?_
        refine g_iconst (1) 90 dX9_partOf_89 rfl rfl ?_
        refine g_iadd 91 dX9_partOf_90 rfl ?_
        refine g_putI 94 dX9_partOf_91 rfl flX9_269 (Sm.k j2 s0.1) ?_
        generalize hM3 : (g_wi M2 a0 22 ((g_mi M2 a0 22) + 1)) = M3
        have j3 : Sm M M3 := by rw [← hM3]; exact (Sm.wi j2)
        replace H := H M3 hM3.symm
        refine g_iload_n 3 95 dX9_partOf_94 rfl rfl ?_
        refine g_if_eq 105 98 dX9_partOf_95 rfl rfl (fun c7 => ?_) (fun c7 => ?_)
        · skip
          replace H := H.1 c7
          refine g_lconst (0) 106 dX9_partOf_105 rfl rfl ?_
          exact g_lret dX9_partOf_106 rfl (Nat.zero_le _) (Nat.zero_le _) (hR _ _ _ j3 H)
        · skip
          replace H := H.2 c7
          refine g_aload_n 2 99 dX9_partOf_98 rfl rfl ?_
          refine g_getI 102 dX9_partOf_99 rfl flX9_279 (Sm.k j3 s0.1) ?_
          refine g_if_eq 107 105 dX9_partOf_102 rfl rfl (fun c8 => ?_) (fun c8 => ?_)
          · skip
            replace H := H.1 c8
            refine g_iload_n 1 108 dX9_partOf_107 rfl rfl ?_
            refine g_bipush (50) 110 dX9_partOf_108 rfl rfl ?_
            refine g_icmp_ne 130 113 dX9_partOf_110 rfl rfl (fun _ => ?_) (fun q => absurd (c6.symm.trans q) (by decide))
            refine g_aload_n 2 131 dX9_partOf_130 rfl rfl ?_
            refine g_getI 134 dX9_partOf_131 rfl flX9_299 (Sm.k j3 s0.1) ?_
            refine g_if_eq 147 137 dX9_partOf_134 rfl rfl (fun c9 => ?_) (fun c9 => ?_)
            · skip
              replace H := H.1 c9
              refine g_aload_n 2 148 dX9_partOf_147 rfl rfl ?_
              refine g_getR 151 (a0 + 12) dX9_partOf_148 rfl flX9_63 (Sm.k j3 s0.1) (Sm.r j3 s0.2.2.2.2.2.2.2.2.2.2.2.2.2.2.2.2.2.2.2.2.2.2.2.1) ?_
              refine g_iload_n 1 152 dX9_partOf_151 rfl rfl ?_
              refine g_bipush (7) 154 dX9_partOf_152 rfl rfl ?_
              refine g_isub 155 dX9_partOf_154 rfl ?_
              obtain ⟨b5, H⟩ := H
              refine h_iaload 156 ((v3 - 7)).toNatClampNeg dX9_partOf_155 rfl rfl (Sm.k j3 s0.2.2.2.2.2.2.2.2.2.2.2.2.2.2.2.2.2.2.2.2.2.2.2.2.1) b5 ?_
              refine g_i2l 157 dX9_partOf_156 rfl ?_
              exact g_lret dX9_partOf_157 rfl (Nat.zero_le _) (Nat.zero_le _) (hR _ _ _ j3 H)
            · skip
              replace H := H.2 c9
              refine g_aload_n 2 138 dX9_partOf_137 rfl rfl ?_
              refine g_iload_n 1 139 dX9_partOf_138 rfl rfl ?_
              refine g_iload_n 0 140 dX9_partOf_139 rfl rfl ?_
              refine g_callV (mc1 := 0) (ms1 := 0) (b := a0) (rest := []) (av := [.int (v3), .int ((g_mi M2 (a0 + 2) ((3012 + (g_mi M2 a0 22))).toNatClampNeg))]) kX9_orderValue 143 dX9_partOf_140 rfl rfl mbX9_302 imX9_orderValue seX9_orderValue gcl9.1 (Sm.k j3 s0.1) (Nat.le_of_ble_eq_true rfl) (Nat.zero_le _) (Nat.zero_le _) (uX9_orderValue (N := N) (K := 0) (Mo.sm j3 s0) H (fun v4 H => ?_))
              show Go X (d + (n + 1) + 6) mc ms kX9_partOf Q 143 [(3, .int ((g_mi M2 (a0 + 2) ((3012 + (g_mi M2 a0 22))).toNatClampNeg))), (2, .int (v3)), (0, .ref a0), (1, .int (x1))] [.int (v4)] M3 0 0
              refine g_i2l 144 dX9_partOf_143 rfl ?_
              refine g_goto 157 dX9_partOf_144 rfl ?_
              exact g_lret dX9_partOf_157 rfl (Nat.zero_le _) (Nat.zero_le _) (hR _ _ _ j3 H)
          · skip
            replace H := H.2 c8
            refine g_lconst (0) 106 dX9_partOf_105 rfl rfl ?_
            exact g_lret dX9_partOf_106 rfl (Nat.zero_le _) (Nat.zero_le _) (hR _ _ _ j3 H)
      · skip
        replace H := H.2 c6
        refine g_iload_n 1 65 dX9_partOf_64 rfl rfl ?_
        refine g_bipush (17) 67 dX9_partOf_65 rfl rfl ?_
        refine g_icmp_ne 94 70 dX9_partOf_67 rfl rfl (fun c10 => ?_) (fun c10 => ?_)
        · skip
          replace H := H.1 c10
          refine g_iload_n 3 95 dX9_partOf_94 rfl rfl ?_
          refine g_if_eq 105 98 dX9_partOf_95 rfl rfl (fun c11 => ?_) (fun c11 => ?_)
          · skip
            replace H := H.1 c11
            refine g_lconst (0) 106 dX9_partOf_105 rfl rfl ?_
            exact g_lret dX9_partOf_106 rfl (Nat.zero_le _) (Nat.zero_le _) (hR _ _ _ j2 H)
          · skip
            replace H := H.2 c11
            refine g_aload_n 2 99 dX9_partOf_98 rfl rfl ?_
            refine g_getI 102 dX9_partOf_99 rfl flX9_279 (Sm.k j2 s0.1) ?_
            refine g_if_eq 107 105 dX9_partOf_102 rfl rfl (fun c12 => ?_) (fun c12 => ?_)
            · skip
              replace H := H.1 c12
              refine g_iload_n 1 108 dX9_partOf_107 rfl rfl ?_
              refine g_bipush (50) 110 dX9_partOf_108 rfl rfl ?_
              refine g_icmp_ne 130 113 dX9_partOf_110 rfl rfl (fun c13 => ?_) (fun c13 => ?_)
              · skip
                replace H := H.1 c13
                refine g_aload_n 2 131 dX9_partOf_130 rfl rfl ?_
                refine g_getI 134 dX9_partOf_131 rfl flX9_299 (Sm.k j2 s0.1) ?_
                refine g_if_eq 147 137 dX9_partOf_134 rfl rfl (fun q => absurd q c2) (fun _ => ?_)
                refine g_aload_n 2 138 dX9_partOf_137 rfl rfl ?_
                refine g_iload_n 1 139 dX9_partOf_138 rfl rfl ?_
                refine g_iload_n 0 140 dX9_partOf_139 rfl rfl ?_
                refine g_callV (mc1 := 0) (ms1 := 0) (b := a0) (rest := []) (av := [.int (v3), .int (0)]) kX9_orderValue 143 dX9_partOf_140 rfl rfl mbX9_302 imX9_orderValue seX9_orderValue gcl9.1 (Sm.k j2 s0.1) (Nat.le_of_ble_eq_true rfl) (Nat.zero_le _) (Nat.zero_le _) (uX9_orderValue (N := N) (K := 0) (Mo.sm j2 s0) H (fun v5 H => ?_))
                show Go X (d + (n + 1) + 6) mc ms kX9_partOf Q 143 [(3, .int (0)), (2, .int (v3)), (0, .ref a0), (1, .int (x1))] [.int (v5)] M2 0 0
                refine g_i2l 144 dX9_partOf_143 rfl ?_
                refine g_goto 157 dX9_partOf_144 rfl ?_
                exact g_lret dX9_partOf_157 rfl (Nat.zero_le _) (Nat.zero_le _) (hR _ _ _ j2 H)
              · skip
                replace H := H.2 c13
                refine g_aload_n 2 114 dX9_partOf_113 rfl rfl ?_
                refine g_getR 117 (a0 + 2) dX9_partOf_114 rfl flX9_28 (Sm.k j2 s0.1) (Sm.r j2 s0.2.2.2.1) ?_
                refine g_sipush (3012) 120 dX9_partOf_117 rfl rfl ?_
                refine g_aload_n 2 121 dX9_partOf_120 rfl rfl ?_
                refine g_getI 124 dX9_partOf_121 rfl flX9_269 (Sm.k j2 s0.1) ?_
                refine g_iadd 125 dX9_partOf_124 rfl ?_
                refine g_iconst (1) 126 dX9_partOf_125 rfl rfl ?_
                refine g_isub 127 dX9_partOf_126 rfl ?_
                obtain ⟨b6, H⟩ := H
                refine h_iaload 128 (((3012 + (g_mi M2 a0 22)) - 1)).toNatClampNeg dX9_partOf_127 rfl rfl (Sm.k j2 s0.2.2.2.2.1) b6 ?_
                refine g_i2l 129 dX9_partOf_128 rfl ?_
                exact g_lret dX9_partOf_129 rfl (Nat.zero_le _) (Nat.zero_le _) (hR _ _ _ j2 H)
            · skip
              replace H := H.2 c12
              refine g_lconst (0) 106 dX9_partOf_105 rfl rfl ?_
              exact g_lret dX9_partOf_106 rfl (Nat.zero_le _) (Nat.zero_le _) (hR _ _ _ j2 H)
        · skip
          replace H := H.2 c10
          refine g_aload_n 2 71 dX9_partOf_70 rfl rfl ?_
          refine g_getR 74 (a0 + 2) dX9_partOf_71 rfl flX9_28 (Sm.k j2 s0.1) (Sm.r j2 s0.2.2.2.1) ?_
          refine g_sipush (3012) 77 dX9_partOf_74 rfl rfl ?_
          refine g_aload_n 2 78 dX9_partOf_77 rfl rfl ?_
          refine g_getI 81 dX9_partOf_78 rfl flX9_269 (Sm.k j2 s0.1) ?_
          refine g_iadd 82 dX9_partOf_81 rfl ?_
          obtain ⟨b7, H⟩ := H
          refine h_iaload 83 ((3012 + (g_mi M2 a0 22))).toNatClampNeg dX9_partOf_82 rfl rfl (Sm.k j2 s0.2.2.2.2.1) b7 ?_
          refine g_istore_n 84 [(3, .int ((g_mi M2 (a0 + 2) ((3012 + (g_mi M2 a0 22))).toNatClampNeg))), (2, .int (v3)), (0, .ref a0), (1, .int (x1))] dX9_partOf_83 rfl (Nat.le_of_ble_eq_true rfl) rfl ?_
          refine g_aload_n 2 85 dX9_partOf_84 rfl rfl ?_
          refine g_dup 86 dX9_partOf_85 rfl rfl ?_
          refine g_getI 89 dX9_partOf_86 rfl flX9_269 (Sm.k j2 s0.1) ?_
          refine g_iconst (1) 90 dX9_partOf_89 rfl rfl ?_
          refine g_iadd 91 dX9_partOf_90 rfl ?_
          refine g_putI 94 dX9_partOf_91 rfl flX9_269 (Sm.k j2 s0.1) ?_
          generalize hM4 : (g_wi M2 a0 22 ((g_mi M2 a0 22) + 1)) = M4
          have j4 : Sm M M4 := by rw [← hM4]; exact (Sm.wi j2)
          replace H := H M4 hM4.symm
          refine g_iload_n 3 95 dX9_partOf_94 rfl rfl ?_
          refine g_if_eq 105 98 dX9_partOf_95 rfl rfl (fun c14 => ?_) (fun c14 => ?_)
          · skip
            replace H := H.1 c14
            refine g_lconst (0) 106 dX9_partOf_105 rfl rfl ?_
            exact g_lret dX9_partOf_106 rfl (Nat.zero_le _) (Nat.zero_le _) (hR _ _ _ j4 H)
          · skip
            replace H := H.2 c14
            refine g_aload_n 2 99 dX9_partOf_98 rfl rfl ?_
            refine g_getI 102 dX9_partOf_99 rfl flX9_279 (Sm.k j4 s0.1) ?_
            refine g_if_eq 107 105 dX9_partOf_102 rfl rfl (fun c15 => ?_) (fun c15 => ?_)
            · skip
              replace H := H.1 c15
              refine g_iload_n 1 108 dX9_partOf_107 rfl rfl ?_
              refine g_bipush (50) 110 dX9_partOf_108 rfl rfl ?_
              refine g_icmp_ne 130 113 dX9_partOf_110 rfl rfl (fun _ => ?_) (fun q => absurd (c10.symm.trans q) (by decide))
              refine g_aload_n 2 131 dX9_partOf_130 rfl rfl ?_
              refine g_getI 134 dX9_partOf_131 rfl flX9_299 (Sm.k j4 s0.1) ?_
              refine g_if_eq 147 137 dX9_partOf_134 rfl rfl (fun c16 => ?_) (fun c16 => ?_)
              · skip
                replace H := H.1 c16
                refine g_aload_n 2 148 dX9_partOf_147 rfl rfl ?_
                refine g_getR 151 (a0 + 12) dX9_partOf_148 rfl flX9_63 (Sm.k j4 s0.1) (Sm.r j4 s0.2.2.2.2.2.2.2.2.2.2.2.2.2.2.2.2.2.2.2.2.2.2.2.1) ?_
                refine g_iload_n 1 152 dX9_partOf_151 rfl rfl ?_
                refine g_bipush (7) 154 dX9_partOf_152 rfl rfl ?_
                refine g_isub 155 dX9_partOf_154 rfl ?_
                obtain ⟨b8, H⟩ := H
                refine h_iaload 156 ((v3 - 7)).toNatClampNeg dX9_partOf_155 rfl rfl (Sm.k j4 s0.2.2.2.2.2.2.2.2.2.2.2.2.2.2.2.2.2.2.2.2.2.2.2.2.1) b8 ?_
                refine g_i2l 157 dX9_partOf_156 rfl ?_
                exact g_lret dX9_partOf_157 rfl (Nat.zero_le _) (Nat.zero_le _) (hR _ _ _ j4 H)
              · skip
                replace H := H.2 c16
                refine g_aload_n 2 138 dX9_partOf_137 rfl rfl ?_
                refine g_iload_n 1 139 dX9_partOf_138 rfl rfl ?_
                refine g_iload_n 0 140 dX9_partOf_139 rfl rfl ?_
                refine g_callV (mc1 := 0) (ms1 := 0) (b := a0) (rest := []) (av := [.int (v3), .int ((g_mi M2 (a0 + 2) ((3012 + (g_mi M2 a0 22))).toNatClampNeg))]) kX9_orderValue 143 dX9_partOf_140 rfl rfl mbX9_302 imX9_orderValue seX9_orderValue gcl9.1 (Sm.k j4 s0.1) (Nat.le_of_ble_eq_true rfl) (Nat.zero_le _) (Nat.zero_le _) (uX9_orderValue (N := N) (K := 0) (Mo.sm j4 s0) H (fun v6 H => ?_))
                show Go X (d + (n + 1) + 6) mc ms kX9_partOf Q 143 [(3, .int ((g_mi M2 (a0 + 2) ((3012 + (g_mi M2 a0 22))).toNatClampNeg))), (2, .int (v3)), (0, .ref a0), (1, .int (x1))] [.int (v6)] M4 0 0
                refine g_i2l 144 dX9_partOf_143 rfl ?_
                refine g_goto 157 dX9_partOf_144 rfl ?_
                exact g_lret dX9_partOf_157 rfl (Nat.zero_le _) (Nat.zero_le _) (hR _ _ _ j4 H)
            · skip
              replace H := H.2 c15
              refine g_lconst (0) 106 dX9_partOf_105 rfl rfl ?_
              exact g_lret dX9_partOf_106 rfl (Nat.zero_le _) (Nat.zero_le _) (hR _ _ _ j4 H)
  · skip
    replace H := H.2 c1
    refine g_aload_n 0 13 dX9_partOf_12 rfl rfl ?_
    refine g_iload_n 1 14 dX9_partOf_13 rfl rfl ?_
    refine g_callV (mc1 := 0) (ms1 := 0) (b := a0) (rest := []) (av := [.int (x1)]) kX9_sumOf 17 dX9_partOf_14 rfl rfl mbX9_296 imX9_sumOf seX9_sumOf gcl9.1 (Sm.k j1 s0.1) (Nat.le_of_ble_eq_true rfl) (Nat.zero_le _) (Nat.zero_le _) ((ih.2.2.2.2.2.2.2.1) d _ 0 0 _ M1 a0 x1 0 0 _ (by omega) (Mo.sm j1 s0) H (fun v7 w7 M5 jj H => ?_))
    have j5 : Sm M M5 := (Sm.tr j1 jj)
    show Go X (d + (n + 1) + 6) mc ms kX9_partOf Q 17 [(0, .ref a0), (1, .int (x1))] [.long (w7)] M5 0 0
    refine g_lstore_n 18 [(2, .long (w7)), (0, .ref a0), (1, .int (x1))] dX9_partOf_17 rfl (Nat.le_of_ble_eq_true rfl) rfl ?_
    refine g_aload_n 1 19 dX9_partOf_18 rfl rfl ?_
    refine g_dup 20 dX9_partOf_19 rfl rfl ?_
    refine g_getI 23 dX9_partOf_20 rfl flX9_269 (Sm.k j5 s0.1) ?_
    refine g_iconst (1) 24 dX9_partOf_23 rfl rfl ?_
    refine g_iadd 25 dX9_partOf_24 rfl ?_
    refine g_putI 28 dX9_partOf_25 rfl flX9_269 (Sm.k j5 s0.1) ?_
    generalize hM6 : (g_wi M5 a0 22 ((g_mi M5 a0 22) + 1)) = M6
    have j6 : Sm M M6 := by rw [← hM6]; exact (Sm.wi j5)
    replace H := H M6 hM6.symm
    refine g_lload_n 0 29 dX9_partOf_28 rfl rfl ?_
    exact g_lret dX9_partOf_29 rfl (Nat.zero_le _) (Nat.zero_le _) (hR _ _ _ j6 H)
theorem ulgME {X : gX} (N : Nat) : ∀ n : Nat, UgME X N n := by
  intro n
  induction n with
  | zero => exact ⟨fun _ _ _ _ _ _ _ _ _ _ _ _ _ h _ => h.elim, fun _ _ _ _ _ _ _ _ _ _ _ _ _ h _ => h.elim, fun _ _ _ _ _ _ _ _ _ _ _ _ _ h _ => h.elim, fun _ _ _ _ _ _ _ _ _ _ _ _ _ h _ => h.elim, fun _ _ _ _ _ _ _ _ _ _ _ _ _ h _ => h.elim, fun _ _ _ _ _ _ _ _ _ _ _ _ _ h _ => h.elim, fun _ _ _ _ _ _ _ _ _ _ _ _ _ h _ => h.elim, fun _ _ _ _ _ _ _ _ _ _ _ _ _ h _ => h.elim, fun _ _ _ _ _ _ _ _ _ _ _ _ _ h _ => h.elim, fun _ _ _ _ _ _ _ _ _ _ _ _ _ h _ => h.elim, fun _ _ _ _ _ _ _ _ _ _ _ _ _ h _ => h.elim, fun _ _ _ _ _ _ _ _ _ _ _ _ _ h _ => h.elim⟩
  | succ n ih => exact ⟨uzX9_testOf_0 ih, uzX9_testOf_6 ih, uzX9_bothOf_0 ih, uzX9_bothOf_6 ih, uzX9_plainOf_0 ih, uzX9_plainOf_2 ih, uzX9_positiveOf_0 ih, uzX9_sumOf_0 ih, uzX9_sumOf_6 ih, uzX9_termOf_0 ih, uzX9_termOf_6 ih, uzX9_partOf_0 ih⟩
def pX9_testOf (N K : Nat) (M : gM) (a0 : Nat) (x1 : Int32) (R : Int32 → gM → Prop) : Prop := qgME N K 0 M a0 x1 0 0 (fun v _ M1 => R v M1)
theorem uX9_testOf {N K : Nat} {X : gX} {d mc ms : Nat} {Q : Option Value → gM → Prop} {M : gM} {a0 : Nat} {x1 : Int32} {R : Int32 → gM → Prop} (s0 : Mo M a0) (H : pX9_testOf N K M a0 x1 R) (hR : ∀ v M1, Sm M M1 → R v M1 → Q (some (.int v)) M1) : Cn X (d + K + 6) mc ms kX9_testOf [.ref a0, .int (x1)] M Q := by
  have ih := ulgME (X := X) N K
  exact (ih.1) d _ mc ms Q M a0 x1 0 0 _ rfl s0 H (fun v w M1 j r => hR v M1 j r)
def pX9_bothOf (N K : Nat) (M : gM) (a0 : Nat) (x1 : Int32) (R : Int32 → gM → Prop) : Prop := qgME N K 2 M a0 x1 0 0 (fun v _ M1 => R v M1)
theorem uX9_bothOf {N K : Nat} {X : gX} {d mc ms : Nat} {Q : Option Value → gM → Prop} {M : gM} {a0 : Nat} {x1 : Int32} {R : Int32 → gM → Prop} (s0 : Mo M a0) (H : pX9_bothOf N K M a0 x1 R) (hR : ∀ v M1, Sm M M1 → R v M1 → Q (some (.int v)) M1) : Cn X (d + K + 6) mc ms kX9_bothOf [.ref a0, .int (x1)] M Q := by
  have ih := ulgME (X := X) N K
  exact (ih.2.2.1) d _ mc ms Q M a0 x1 0 0 _ rfl s0 H (fun v w M1 j r => hR v M1 j r)
def pX9_plainOf (N K : Nat) (M : gM) (a0 : Nat) (x1 : Int32) (R : Int32 → gM → Prop) : Prop := qgME N K 4 M a0 x1 0 0 (fun v _ M1 => R v M1)
theorem uX9_plainOf {N K : Nat} {X : gX} {d mc ms : Nat} {Q : Option Value → gM → Prop} {M : gM} {a0 : Nat} {x1 : Int32} {R : Int32 → gM → Prop} (s0 : Mo M a0) (H : pX9_plainOf N K M a0 x1 R) (hR : ∀ v M1, Sm M M1 → R v M1 → Q (some (.int v)) M1) : Cn X (d + K + 6) mc ms kX9_plainOf [.ref a0, .int (x1)] M Q := by
  have ih := ulgME (X := X) N K
  exact (ih.2.2.2.2.1) d _ mc ms Q M a0 x1 0 0 _ rfl s0 H (fun v w M1 j r => hR v M1 j r)
def pX9_positiveOf (N K : Nat) (M : gM) (a0 : Nat) (x1 : Int32) (R : Int32 → gM → Prop) : Prop := qgME N K 6 M a0 x1 0 0 (fun v _ M1 => R v M1)
theorem uX9_positiveOf {N K : Nat} {X : gX} {d mc ms : Nat} {Q : Option Value → gM → Prop} {M : gM} {a0 : Nat} {x1 : Int32} {R : Int32 → gM → Prop} (s0 : Mo M a0) (H : pX9_positiveOf N K M a0 x1 R) (hR : ∀ v M1, Sm M M1 → R v M1 → Q (some (.int v)) M1) : Cn X (d + K + 6) mc ms kX9_positiveOf [.ref a0, .int (x1)] M Q := by
  have ih := ulgME (X := X) N K
  exact (ih.2.2.2.2.2.2.1) d _ mc ms Q M a0 x1 0 0 _ rfl s0 H (fun v w M1 j r => hR v M1 j r)
def pX9_sumOf (N K : Nat) (M : gM) (a0 : Nat) (x1 : Int32) (R : Int64 → gM → Prop) : Prop := qgME N K 7 M a0 x1 0 0 (fun _ w M1 => R w M1)
theorem uX9_sumOf {N K : Nat} {X : gX} {d mc ms : Nat} {Q : Option Value → gM → Prop} {M : gM} {a0 : Nat} {x1 : Int32} {R : Int64 → gM → Prop} (s0 : Mo M a0) (H : pX9_sumOf N K M a0 x1 R) (hR : ∀ v M1, Sm M M1 → R v M1 → Q (some (.long v)) M1) : Cn X (d + K + 6) mc ms kX9_sumOf [.ref a0, .int (x1)] M Q := by
  have ih := ulgME (X := X) N K
  exact (ih.2.2.2.2.2.2.2.1) d _ mc ms Q M a0 x1 0 0 _ rfl s0 H (fun v w M1 j r => hR w M1 j r)
def pX9_termOf (N K : Nat) (M : gM) (a0 : Nat) (x1 : Int32) (R : Int64 → gM → Prop) : Prop := qgME N K 9 M a0 x1 0 0 (fun _ w M1 => R w M1)
theorem uX9_termOf {N K : Nat} {X : gX} {d mc ms : Nat} {Q : Option Value → gM → Prop} {M : gM} {a0 : Nat} {x1 : Int32} {R : Int64 → gM → Prop} (s0 : Mo M a0) (H : pX9_termOf N K M a0 x1 R) (hR : ∀ v M1, Sm M M1 → R v M1 → Q (some (.long v)) M1) : Cn X (d + K + 6) mc ms kX9_termOf [.ref a0, .int (x1)] M Q := by
  have ih := ulgME (X := X) N K
  exact (ih.2.2.2.2.2.2.2.2.2.1) d _ mc ms Q M a0 x1 0 0 _ rfl s0 H (fun v w M1 j r => hR w M1 j r)
def pX9_partOf (N K : Nat) (M : gM) (a0 : Nat) (x1 : Int32) (R : Int64 → gM → Prop) : Prop := qgME N K 11 M a0 x1 0 0 (fun _ w M1 => R w M1)
theorem uX9_partOf {N K : Nat} {X : gX} {d mc ms : Nat} {Q : Option Value → gM → Prop} {M : gM} {a0 : Nat} {x1 : Int32} {R : Int64 → gM → Prop} (s0 : Mo M a0) (H : pX9_partOf N K M a0 x1 R) (hR : ∀ v M1, Sm M M1 → R v M1 → Q (some (.long v)) M1) : Cn X (d + K + 6) mc ms kX9_partOf [.ref a0, .int (x1)] M Q := by
  have ih := ulgME (X := X) N K
  exact (ih.2.2.2.2.2.2.2.2.2.2.2) d _ mc ms Q M a0 x1 0 0 _ rfl s0 H (fun v w M1 j r => hR w M1 j r)
/-! group gCP -/
def pX2_readPiece_116 (N : Nat) (kp : Nat → gM → Nat → Int32 → Int32 → Int32 → (Int32 → Int64 → gM → Prop) → Prop) (R : Int32 → Int64 → gM → Prop) (M : gM) (a0 : Nat) (x2 : Int32) : Prop := (((g_mi M a0 12) = 0 → ((x2 < 0 → ((¬ x2 = 23 → pX2_fail N 0 M a0 (fun v1 M1 => (v1 = 0 ∨ v1 = 1) ∧ R v1 0 M1)) ∧ (x2 = 23 → (vp_in ((g_mi M a0 10)) 401) ∧ ((1000 < (g_mi M (a0 + 13) ((g_mi M a0 10)).toNatClampNeg) → pX2_fail N 0 M a0 (fun v2 M2 => (v2 = 0 ∨ v2 = 1) ∧ R v2 0 M2)) ∧ (¬ 1000 < (g_mi M (a0 + 13) ((g_mi M a0 10)).toNatClampNeg) → pX6_put N 0 M (a0 + 2) 12 460 1 (g_mi M (a0 + 13) ((g_mi M a0 10)).toNatClampNeg) (fun v3 M3 => pX2_pass N 0 M3 a0 (fun M4 => R 1 0 M4))))))) ∧ (¬ x2 < 0 → ((6 < x2 → ((¬ x2 = 23 → pX2_fail N 0 M a0 (fun v4 M5 => (v4 = 0 ∨ v4 = 1) ∧ R v4 0 M5)) ∧ (x2 = 23 → (vp_in ((g_mi M a0 10)) 401) ∧ ((1000 < (g_mi M (a0 + 13) ((g_mi M a0 10)).toNatClampNeg) → pX2_fail N 0 M a0 (fun v5 M6 => (v5 = 0 ∨ v5 = 1) ∧ R v5 0 M6)) ∧ (¬ 1000 < (g_mi M (a0 + 13) ((g_mi M a0 10)).toNatClampNeg) → pX6_put N 0 M (a0 + 2) 12 460 1 (g_mi M (a0 + 13) ((g_mi M a0 10)).toNatClampNeg) (fun v6 M7 => pX2_pass N 0 M7 a0 (fun M8 => R 1 0 M8))))))) ∧ (¬ 6 < x2 → pX6_put N 0 M (a0 + 2) 12 460 2 x2 (fun v7 M9 => pX2_pass N 0 M9 a0 (fun M10 => R 1 0 M10))))))) ∧ (¬ (g_mi M a0 12) = 0 → ((x2 < 6 → ((¬ x2 = 23 → pX2_fail N 0 M a0 (fun v8 M11 => (v8 = 0 ∨ v8 = 1) ∧ R v8 0 M11)) ∧ (x2 = 23 → (vp_in ((g_mi M a0 10)) 401) ∧ ((1000 < (g_mi M (a0 + 13) ((g_mi M a0 10)).toNatClampNeg) → pX2_fail N 0 M a0 (fun v9 M12 => (v9 = 0 ∨ v9 = 1) ∧ R v9 0 M12)) ∧ (¬ 1000 < (g_mi M (a0 + 13) ((g_mi M a0 10)).toNatClampNeg) → pX6_put N 0 M (a0 + 2) 12 460 1 (g_mi M (a0 + 13) ((g_mi M a0 10)).toNatClampNeg) (fun v10 M13 => pX2_pass N 0 M13 a0 (fun M14 => R 1 0 M14))))))) ∧ (¬ x2 < 6 → ((9 < x2 → ((¬ x2 = 23 → pX2_fail N 0 M a0 (fun v11 M15 => (v11 = 0 ∨ v11 = 1) ∧ R v11 0 M15)) ∧ (x2 = 23 → (vp_in ((g_mi M a0 10)) 401) ∧ ((1000 < (g_mi M (a0 + 13) ((g_mi M a0 10)).toNatClampNeg) → pX2_fail N 0 M a0 (fun v12 M16 => (v12 = 0 ∨ v12 = 1) ∧ R v12 0 M16)) ∧ (¬ 1000 < (g_mi M (a0 + 13) ((g_mi M a0 10)).toNatClampNeg) → pX6_put N 0 M (a0 + 2) 12 460 1 (g_mi M (a0 + 13) ((g_mi M a0 10)).toNatClampNeg) (fun v13 M17 => pX2_pass N 0 M17 a0 (fun M18 => R 1 0 M18))))))) ∧ (¬ 9 < x2 → pX6_put N 0 M (a0 + 2) 12 460 2 x2 (fun v14 M19 => pX2_pass N 0 M19 a0 (fun M20 => R 1 0 M20))))))))
def pX2_readPlain_45 (N : Nat) (kp : Nat → gM → Nat → Int32 → Int32 → Int32 → (Int32 → Int64 → gM → Prop) → Prop) (R : Int32 → Int64 → gM → Prop) (M : gM) (a0 : Nat) (x1 : Int32) (x2 : Int32) : Prop := (EX2_isMark M a0 40) ∧ ∀ v1 : Int32, v1 = (fX2_isMark M a0 40) → ((v1 = 0 → kp 6 M a0 x1 0 0 (fun v2 w2 M1 => ((¬ v2 = 0 → (EX2_isMark M1 a0 60) ∧ ∀ v3 : Int32, v3 = (fX2_isMark M1 a0 60) → ((v3 = 0 → (EX2_isMark M1 a0 62) ∧ ∀ v4 : Int32, v4 = (fX2_isMark M1 a0 62) → ((v4 = 0 → (EX2_isMark M1 a0 61) ∧ ∀ v5 : Int32, v5 = (fX2_isMark M1 a0 61) → ((v5 = 0 → pX2_fail N 0 M1 a0 (fun v6 M2 => (v6 = 0 ∨ v6 = 1) ∧ R v6 0 M2)) ∧ (¬ v5 = 0 → pX2_pass N 0 M1 a0 (fun M3 => kp 6 M3 a0 x1 0 0 (fun v7 w7 M4 => ((¬ v7 = 0 → pX6_put N 0 M4 (a0 + 2) 12 460 13 0 (fun v8 M5 => ((x2 = 0 → R 1 0 M5) ∧ (¬ x2 = 0 → pX6_put N 0 M5 (a0 + 2) 12 460 3 0 (fun v9 M6 => R 1 0 M6))))) ∧ (v7 = 0 → R 0 0 M4))))))) ∧ (¬ v4 = 0 → pX2_pass N 0 M1 a0 (fun M7 => kp 6 M7 a0 x1 0 0 (fun v10 w10 M8 => ((¬ v10 = 0 → pX6_put N 0 M8 (a0 + 2) 12 460 12 0 (fun v11 M9 => ((x2 = 0 → R 1 0 M9) ∧ (¬ x2 = 0 → pX6_put N 0 M9 (a0 + 2) 12 460 3 0 (fun v12 M10 => R 1 0 M10))))) ∧ (v10 = 0 → R 0 0 M8))))))) ∧ (¬ v3 = 0 → pX2_pass N 0 M1 a0 (fun M11 => kp 6 M11 a0 x1 0 0 (fun v13 w13 M12 => ((¬ v13 = 0 → pX6_put N 0 M12 (a0 + 2) 12 460 11 0 (fun v14 M13 => ((x2 = 0 → R 1 0 M13) ∧ (¬ x2 = 0 → pX6_put N 0 M13 (a0 + 2) 12 460 3 0 (fun v15 M14 => R 1 0 M14))))) ∧ (v13 = 0 → R 0 0 M12))))))) ∧ (v2 = 0 → R 0 0 M1)))) ∧ (¬ v1 = 0 → ((x1 < 8 → pX2_pass N 0 M a0 (fun M15 => kp 0 M15 a0 (x1 + 1) 0 0 (fun v16 w16 M16 => ((v16 = 0 → R 0 0 M16) ∧ (¬ v16 = 0 → pX2_passMark N 0 M16 a0 41 (fun v17 M17 => ((¬ v17 = 0 → ((x2 = 0 → R 1 0 M17) ∧ (¬ x2 = 0 → pX6_put N 0 M17 (a0 + 2) 12 460 3 0 (fun v18 M18 => R 1 0 M18)))) ∧ (v17 = 0 → R 0 0 M17)))))))) ∧ (¬ x1 < 8 → pX2_fail N 0 M a0 (fun v19 M19 => (v19 = 0 ∨ v19 = 1) ∧ R v19 0 M19)))))
def pX2_readTest_0 (N : Nat) (kp : Nat → gM → Nat → Int32 → Int32 → Int32 → (Int32 → Int64 → gM → Prop) → Prop) (R : Int32 → Int64 → gM → Prop) (M : gM) (a0 : Nat) (x1 : Int32) : Prop := kp 2 M a0 x1 0 0 (fun v1 w1 M1 => ((¬ v1 = 0 → kp 1 M1 a0 x1 0 0 R) ∧ (v1 = 0 → R 0 0 M1)))
def pX2_readTest_12 (N : Nat) (kp : Nat → gM → Nat → Int32 → Int32 → Int32 → (Int32 → Int64 → gM → Prop) → Prop) (R : Int32 → Int64 → gM → Prop) (M : gM) (a0 : Nat) (x1 : Int32) (x2 : Int32) : Prop := ((400 ≤ x2 → R 1 0 M) ∧ (¬ 400 ≤ x2 → (vp_in ((g_mi M a0 10)) 401) ∧ ((¬ (g_mi M (a0 + 11) ((g_mi M a0 10)).toNatClampNeg) = 19 → R 1 0 M) ∧ ((g_mi M (a0 + 11) ((g_mi M a0 10)).toNatClampNeg) = 19 → pX2_pass N 0 M a0 (fun M1 => pX6_put N 0 M1 (a0 + 2) 12 460 5 0 (fun v1 M2 => kp 2 M2 a0 x1 0 0 (fun v2 w2 M3 => ((¬ v2 = 0 → pX6_jumpToHere N 0 M3 (a0 + 2) 12 460 v1 (fun M4 => kp 1 M4 a0 x1 (x2 + 1) 0 R)) ∧ (v2 = 0 → R 0 0 M3)))))))))
def pX2_readBoth_0 (N : Nat) (kp : Nat → gM → Nat → Int32 → Int32 → Int32 → (Int32 → Int64 → gM → Prop) → Prop) (R : Int32 → Int64 → gM → Prop) (M : gM) (a0 : Nat) (x1 : Int32) : Prop := kp 4 M a0 x1 0 0 (fun v1 w1 M1 => ((¬ v1 = 0 → kp 3 M1 a0 x1 0 0 R) ∧ (v1 = 0 → R 0 0 M1)))
def pX2_readBoth_12 (N : Nat) (kp : Nat → gM → Nat → Int32 → Int32 → Int32 → (Int32 → Int64 → gM → Prop) → Prop) (R : Int32 → Int64 → gM → Prop) (M : gM) (a0 : Nat) (x1 : Int32) (x2 : Int32) : Prop := ((400 ≤ x2 → R 1 0 M) ∧ (¬ 400 ≤ x2 → (vp_in ((g_mi M a0 10)) 401) ∧ ((¬ (g_mi M (a0 + 11) ((g_mi M a0 10)).toNatClampNeg) = 20 → R 1 0 M) ∧ ((g_mi M (a0 + 11) ((g_mi M a0 10)).toNatClampNeg) = 20 → pX2_pass N 0 M a0 (fun M1 => pX6_put N 0 M1 (a0 + 2) 12 460 4 0 (fun v1 M2 => kp 4 M2 a0 x1 0 0 (fun v2 w2 M3 => ((¬ v2 = 0 → pX6_jumpToHere N 0 M3 (a0 + 2) 12 460 v1 (fun M4 => kp 3 M4 a0 x1 (x2 + 1) 0 R)) ∧ (v2 = 0 → R 0 0 M3)))))))))
def pX2_readPlain_0 (N : Nat) (kp : Nat → gM → Nat → Int32 → Int32 → Int32 → (Int32 → Int64 → gM → Prop) → Prop) (R : Int32 → Int64 → gM → Prop) (M : gM) (a0 : Nat) (x1 : Int32) : Prop := kp 5 M a0 x1 0 0 R
def pX2_readPlain_4 (N : Nat) (kp : Nat → gM → Nat → Int32 → Int32 → Int32 → (Int32 → Int64 → gM → Prop) → Prop) (R : Int32 → Int64 → gM → Prop) (M : gM) (a0 : Nat) (x1 : Int32) (x2 : Int32) (x3 : Int32) : Prop := ((400 ≤ x3 → pX2_readPlain_45 N kp R M a0 x1 x2) ∧ (¬ 400 ≤ x3 → (vp_in ((g_mi M a0 10)) 401) ∧ ((¬ (g_mi M (a0 + 11) ((g_mi M a0 10)).toNatClampNeg) = 21 → pX2_readPlain_45 N kp R M a0 x1 x2) ∧ ((g_mi M (a0 + 11) ((g_mi M a0 10)).toNatClampNeg) = 21 → ((¬ x2 = 0 → pX2_pass N 0 M a0 (fun M1 => kp 5 M1 a0 x1 0 (x3 + 1) R)) ∧ (x2 = 0 → pX2_pass N 0 M a0 (fun M2 => kp 5 M2 a0 x1 1 (x3 + 1) R)))))))
def pX2_readSum_0 (N : Nat) (kp : Nat → gM → Nat → Int32 → Int32 → Int32 → (Int32 → Int64 → gM → Prop) → Prop) (R : Int32 → Int64 → gM → Prop) (M : gM) (a0 : Nat) (x1 : Int32) : Prop := kp 8 M a0 x1 0 0 (fun v1 w1 M1 => ((¬ v1 = 0 → kp 7 M1 a0 x1 0 0 R) ∧ (v1 = 0 → R 0 0 M1)))
def pX2_readSum_12 (N : Nat) (kp : Nat → gM → Nat → Int32 → Int32 → Int32 → (Int32 → Int64 → gM → Prop) → Prop) (R : Int32 → Int64 → gM → Prop) (M : gM) (a0 : Nat) (x1 : Int32) (x2 : Int32) : Prop := ((400 ≤ x2 → R 1 0 M) ∧ (¬ 400 ≤ x2 → (EX2_isMark M a0 43) ∧ ∀ v1 : Int32, v1 = (fX2_isMark M a0 43) → ((v1 = 0 → (EX2_isMark M a0 45) ∧ ∀ v2 : Int32, v2 = (fX2_isMark M a0 45) → ((v2 = 0 → R 1 0 M) ∧ (¬ v2 = 0 → pX2_pass N 0 M a0 (fun M1 => kp 8 M1 a0 x1 0 0 (fun v3 w3 M2 => ((¬ v3 = 0 → pX6_put N 0 M2 (a0 + 2) 12 460 7 0 (fun v4 M3 => kp 7 M3 a0 x1 (x2 + 1) 0 R)) ∧ (v3 = 0 → R 0 0 M2))))))) ∧ (¬ v1 = 0 → pX2_pass N 0 M a0 (fun M4 => kp 8 M4 a0 x1 0 0 (fun v5 w5 M5 => ((¬ v5 = 0 → pX6_put N 0 M5 (a0 + 2) 12 460 6 0 (fun v6 M6 => kp 7 M6 a0 x1 (x2 + 1) 0 R)) ∧ (v5 = 0 → R 0 0 M5))))))))
def pX2_readTerm_0 (N : Nat) (kp : Nat → gM → Nat → Int32 → Int32 → Int32 → (Int32 → Int64 → gM → Prop) → Prop) (R : Int32 → Int64 → gM → Prop) (M : gM) (a0 : Nat) (x1 : Int32) : Prop := kp 10 M a0 x1 0 0 (fun v1 w1 M1 => ((¬ v1 = 0 → kp 9 M1 a0 x1 0 0 R) ∧ (v1 = 0 → R 0 0 M1)))
def pX2_readTerm_12 (N : Nat) (kp : Nat → gM → Nat → Int32 → Int32 → Int32 → (Int32 → Int64 → gM → Prop) → Prop) (R : Int32 → Int64 → gM → Prop) (M : gM) (a0 : Nat) (x1 : Int32) (x2 : Int32) : Prop := ((400 ≤ x2 → R 1 0 M) ∧ (¬ 400 ≤ x2 → (EX2_isMark M a0 42) ∧ ∀ v1 : Int32, v1 = (fX2_isMark M a0 42) → ((v1 = 0 → (EX2_isMark M a0 47) ∧ ∀ v2 : Int32, v2 = (fX2_isMark M a0 47) → ((v2 = 0 → (EX2_isMark M a0 37) ∧ ∀ v3 : Int32, v3 = (fX2_isMark M a0 37) → ((v3 = 0 → R 1 0 M) ∧ (¬ v3 = 0 → pX2_pass N 0 M a0 (fun M1 => kp 10 M1 a0 x1 0 0 (fun v4 w4 M2 => ((¬ v4 = 0 → pX6_put N 0 M2 (a0 + 2) 12 460 10 0 (fun v5 M3 => kp 9 M3 a0 x1 (x2 + 1) 0 R)) ∧ (v4 = 0 → R 0 0 M2))))))) ∧ (¬ v2 = 0 → pX2_pass N 0 M a0 (fun M4 => kp 10 M4 a0 x1 0 0 (fun v6 w6 M5 => ((¬ v6 = 0 → pX6_put N 0 M5 (a0 + 2) 12 460 9 0 (fun v7 M6 => kp 9 M6 a0 x1 (x2 + 1) 0 R)) ∧ (v6 = 0 → R 0 0 M5))))))) ∧ (¬ v1 = 0 → pX2_pass N 0 M a0 (fun M7 => kp 10 M7 a0 x1 0 0 (fun v8 w8 M8 => ((¬ v8 = 0 → pX6_put N 0 M8 (a0 + 2) 12 460 8 0 (fun v9 M9 => kp 9 M9 a0 x1 (x2 + 1) 0 R)) ∧ (v8 = 0 → R 0 0 M8))))))))
def pX2_readPiece_0 (N : Nat) (kp : Nat → gM → Nat → Int32 → Int32 → Int32 → (Int32 → Int64 → gM → Prop) → Prop) (R : Int32 → Int64 → gM → Prop) (M : gM) (a0 : Nat) (x1 : Int32) : Prop := (EX2_isMark M a0 91) ∧ ∀ v1 : Int32, v1 = (fX2_isMark M a0 91) → ((v1 = 0 → (((g_mi M a0 11) < 50 → ∀ M1 : gM, M1 = (g_wi M a0 11 ((g_mi M a0 11) + 1)) → (vp_in ((g_mi M1 a0 10)) 401) ∧ (((g_mi M1 a0 12) = 0 → pX2_readPiece_116 N kp R M1 a0 (g_mi M1 (a0 + 11) ((g_mi M1 a0 10)).toNatClampNeg)) ∧ (¬ (g_mi M1 a0 12) = 0 → (((g_mi M1 (a0 + 11) ((g_mi M1 a0 10)).toNatClampNeg) = 5 → pX2_readLookup N 0 M1 a0 1 (fun v2 M2 => (v2 = 0 ∨ v2 = 1) ∧ R v2 0 M2)) ∧ (¬ (g_mi M1 (a0 + 11) ((g_mi M1 a0 10)).toNatClampNeg) = 5 → ((¬ (g_mi M1 (a0 + 11) ((g_mi M1 a0 10)).toNatClampNeg) = 10 → pX2_readPiece_116 N kp R M1 a0 (g_mi M1 (a0 + 11) ((g_mi M1 a0 10)).toNatClampNeg)) ∧ ((g_mi M1 (a0 + 11) ((g_mi M1 a0 10)).toNatClampNeg) = 10 → pX2_readLookup N 0 M1 a0 0 (fun v3 M3 => (v3 = 0 ∨ v3 = 1) ∧ R v3 0 M3)))))))) ∧ (¬ (g_mi M a0 11) < 50 → pX2_fail N 0 M a0 (fun v4 M4 => (v4 = 0 ∨ v4 = 1) ∧ R v4 0 M4)))) ∧ (¬ v1 = 0 → ((x1 < 8 → pX2_pass N 0 M a0 (fun M5 => kp 6 M5 a0 (x1 + 1) 0 0 (fun v5 w5 M6 => ((v5 = 0 → R 0 0 M6) ∧ (¬ v5 = 0 → pX2_passMark N 0 M6 a0 93 (fun v6 M7 => ((v6 = 0 → R 0 0 M7) ∧ (¬ v6 = 0 → R 1 0 M7)))))))) ∧ (¬ x1 < 8 → pX2_fail N 0 M a0 (fun v7 M8 => (v7 = 0 ∨ v7 = 1) ∧ R v7 0 M8)))))
def qgCP (N : Nat) : Nat → Nat → gM → Nat → Int32 → Int32 → Int32 → (Int32 → Int64 → gM → Prop) → Prop
  | 0, _, _, _, _, _, _, _ => False
  | n + 1, h, M, a0, x1, x2, x3, R => if h = 0 then pX2_readTest_0 N (qgCP N n) R M a0 x1 else if h = 1 then pX2_readTest_12 N (qgCP N n) R M a0 x1 x2 else if h = 2 then pX2_readBoth_0 N (qgCP N n) R M a0 x1 else if h = 3 then pX2_readBoth_12 N (qgCP N n) R M a0 x1 x2 else if h = 4 then pX2_readPlain_0 N (qgCP N n) R M a0 x1 else if h = 5 then pX2_readPlain_4 N (qgCP N n) R M a0 x1 x2 x3 else if h = 6 then pX2_readSum_0 N (qgCP N n) R M a0 x1 else if h = 7 then pX2_readSum_12 N (qgCP N n) R M a0 x1 x2 else if h = 8 then pX2_readTerm_0 N (qgCP N n) R M a0 x1 else if h = 9 then pX2_readTerm_12 N (qgCP N n) R M a0 x1 x2 else pX2_readPiece_0 N (qgCP N n) R M a0 x1
def UX2_readTest_0 (X : gX) (N : Nat) (n : Nat) : Prop := ∀ (d D mc ms : Nat) (Q : Option Value → gM → Prop) (M : gM) (a0 : Nat) (x1 : Int32) (x2 : Int32) (x3 : Int32) (R : Int32 → Int64 → gM → Prop), D = d + n + 3 → Re M a0 → qgCP N n 0 M a0 x1 x2 x3 R → (∀ (v : Int32) (w : Int64) (M1 : gM), Sm M M1 → R v w M1 → Q (some (.int v)) M1) → Cn X D mc ms kX2_readTest [.ref a0, .int (x1)] M Q
def UX2_readTest_12 (X : gX) (N : Nat) (n : Nat) : Prop := ∀ (d D mc ms : Nat) (Q : Option Value → gM → Prop) (M : gM) (a0 : Nat) (x1 : Int32) (x2 : Int32) (x3 : Int32) (R : Int32 → Int64 → gM → Prop), D = d + n + 3 → Re M a0 → qgCP N n 1 M a0 x1 x2 x3 R → (∀ (v : Int32) (w : Int64) (M1 : gM), Sm M M1 → R v w M1 → Q (some (.int v)) M1) → Go X D mc ms kX2_readTest Q 12 [(0, .ref a0), (1, .int (x1)), (2, .int (x2))] [] M 0 0
def UX2_readBoth_0 (X : gX) (N : Nat) (n : Nat) : Prop := ∀ (d D mc ms : Nat) (Q : Option Value → gM → Prop) (M : gM) (a0 : Nat) (x1 : Int32) (x2 : Int32) (x3 : Int32) (R : Int32 → Int64 → gM → Prop), D = d + n + 3 → Re M a0 → qgCP N n 2 M a0 x1 x2 x3 R → (∀ (v : Int32) (w : Int64) (M1 : gM), Sm M M1 → R v w M1 → Q (some (.int v)) M1) → Cn X D mc ms kX2_readBoth [.ref a0, .int (x1)] M Q
def UX2_readBoth_12 (X : gX) (N : Nat) (n : Nat) : Prop := ∀ (d D mc ms : Nat) (Q : Option Value → gM → Prop) (M : gM) (a0 : Nat) (x1 : Int32) (x2 : Int32) (x3 : Int32) (R : Int32 → Int64 → gM → Prop), D = d + n + 3 → Re M a0 → qgCP N n 3 M a0 x1 x2 x3 R → (∀ (v : Int32) (w : Int64) (M1 : gM), Sm M M1 → R v w M1 → Q (some (.int v)) M1) → Go X D mc ms kX2_readBoth Q 12 [(0, .ref a0), (1, .int (x1)), (2, .int (x2))] [] M 0 0
def UX2_readPlain_0 (X : gX) (N : Nat) (n : Nat) : Prop := ∀ (d D mc ms : Nat) (Q : Option Value → gM → Prop) (M : gM) (a0 : Nat) (x1 : Int32) (x2 : Int32) (x3 : Int32) (R : Int32 → Int64 → gM → Prop), D = d + n + 3 → Re M a0 → qgCP N n 4 M a0 x1 x2 x3 R → (∀ (v : Int32) (w : Int64) (M1 : gM), Sm M M1 → R v w M1 → Q (some (.int v)) M1) → Cn X D mc ms kX2_readPlain [.ref a0, .int (x1)] M Q
def UX2_readPlain_4 (X : gX) (N : Nat) (n : Nat) : Prop := ∀ (d D mc ms : Nat) (Q : Option Value → gM → Prop) (M : gM) (a0 : Nat) (x1 : Int32) (x2 : Int32) (x3 : Int32) (R : Int32 → Int64 → gM → Prop), D = d + n + 3 → Re M a0 → qgCP N n 5 M a0 x1 x2 x3 R → (∀ (v : Int32) (w : Int64) (M1 : gM), Sm M M1 → R v w M1 → Q (some (.int v)) M1) → Go X D mc ms kX2_readPlain Q 4 [(0, .ref a0), (1, .int (x1)), (2, .int (x2)), (3, .int (x3))] [] M 0 0
def UX2_readSum_0 (X : gX) (N : Nat) (n : Nat) : Prop := ∀ (d D mc ms : Nat) (Q : Option Value → gM → Prop) (M : gM) (a0 : Nat) (x1 : Int32) (x2 : Int32) (x3 : Int32) (R : Int32 → Int64 → gM → Prop), D = d + n + 3 → Re M a0 → qgCP N n 6 M a0 x1 x2 x3 R → (∀ (v : Int32) (w : Int64) (M1 : gM), Sm M M1 → R v w M1 → Q (some (.int v)) M1) → Cn X D mc ms kX2_readSum [.ref a0, .int (x1)] M Q
def UX2_readSum_12 (X : gX) (N : Nat) (n : Nat) : Prop := ∀ (d D mc ms : Nat) (Q : Option Value → gM → Prop) (M : gM) (a0 : Nat) (x1 : Int32) (x2 : Int32) (x3 : Int32) (R : Int32 → Int64 → gM → Prop), D = d + n + 3 → Re M a0 → qgCP N n 7 M a0 x1 x2 x3 R → (∀ (v : Int32) (w : Int64) (M1 : gM), Sm M M1 → R v w M1 → Q (some (.int v)) M1) → Go X D mc ms kX2_readSum Q 12 [(0, .ref a0), (1, .int (x1)), (2, .int (x2))] [] M 0 0
def UX2_readTerm_0 (X : gX) (N : Nat) (n : Nat) : Prop := ∀ (d D mc ms : Nat) (Q : Option Value → gM → Prop) (M : gM) (a0 : Nat) (x1 : Int32) (x2 : Int32) (x3 : Int32) (R : Int32 → Int64 → gM → Prop), D = d + n + 3 → Re M a0 → qgCP N n 8 M a0 x1 x2 x3 R → (∀ (v : Int32) (w : Int64) (M1 : gM), Sm M M1 → R v w M1 → Q (some (.int v)) M1) → Cn X D mc ms kX2_readTerm [.ref a0, .int (x1)] M Q
def UX2_readTerm_12 (X : gX) (N : Nat) (n : Nat) : Prop := ∀ (d D mc ms : Nat) (Q : Option Value → gM → Prop) (M : gM) (a0 : Nat) (x1 : Int32) (x2 : Int32) (x3 : Int32) (R : Int32 → Int64 → gM → Prop), D = d + n + 3 → Re M a0 → qgCP N n 9 M a0 x1 x2 x3 R → (∀ (v : Int32) (w : Int64) (M1 : gM), Sm M M1 → R v w M1 → Q (some (.int v)) M1) → Go X D mc ms kX2_readTerm Q 12 [(0, .ref a0), (1, .int (x1)), (2, .int (x2))] [] M 0 0
def UX2_readPiece_0 (X : gX) (N : Nat) (n : Nat) : Prop := ∀ (d D mc ms : Nat) (Q : Option Value → gM → Prop) (M : gM) (a0 : Nat) (x1 : Int32) (x2 : Int32) (x3 : Int32) (R : Int32 → Int64 → gM → Prop), D = d + n + 3 → Re M a0 → qgCP N n 10 M a0 x1 x2 x3 R → (∀ (v : Int32) (w : Int64) (M1 : gM), Sm M M1 → R v w M1 → Q (some (.int v)) M1) → Cn X D mc ms kX2_readPiece [.ref a0, .int (x1)] M Q
def UgCP (X : gX) (N : Nat) (n : Nat) : Prop := UX2_readTest_0 X N n ∧ UX2_readTest_12 X N n ∧ UX2_readBoth_0 X N n ∧ UX2_readBoth_12 X N n ∧ UX2_readPlain_0 X N n ∧ UX2_readPlain_4 X N n ∧ UX2_readSum_0 X N n ∧ UX2_readSum_12 X N n ∧ UX2_readTerm_0 X N n ∧ UX2_readTerm_12 X N n ∧ UX2_readPiece_0 X N n
set_option maxRecDepth 10000 in
theorem uxX2_readPiece_116 {X : gX} {N : Nat} {n : Nat} (ih : UgCP X N n) {d mc ms : Nat} {Q : Option Value → gM → Prop} {M : gM} {a0 : Nat} {x2 : Int32} {R : Int32 → Int64 → gM → Prop} (s0 : Re M a0) (H : pX2_readPiece_116 N (qgCP N n) R M a0 x2) (hR : ∀ (v : Int32) (w : Int64) (M1 : gM), Sm M M1 → R v w M1 → Q (some (.int v)) M1) : Go X (d + (n + 1) + 3) mc ms kX2_readPiece Q 116 [(0, .ref a0), (2, .int (x2))] [] M 0 0 := by
  unfold pX2_readPiece_116 at H
  refine g_aload_n 0 117 dX2_readPiece_116 rfl rfl ?_
  refine g_getI 120 dX2_readPiece_117 rfl flX2_59 s0.1 ?_
  refine g_if_eq 128 123 dX2_readPiece_120 rfl rfl (fun c1 => ?_) (fun c1 => ?_)
  · skip
    replace H := H.1 c1
    refine g_iconst (0) 129 dX2_readPiece_128 rfl rfl ?_
    refine g_istore_n 130 [(3, .int (0)), (0, .ref a0), (2, .int (x2))] dX2_readPiece_129 rfl (Nat.le_of_ble_eq_true rfl) rfl ?_
    refine g_aload_n 1 131 dX2_readPiece_130 rfl rfl ?_
    refine g_getI 134 dX2_readPiece_131 rfl flX2_59 s0.1 ?_
    refine g_if_eq 142 137 dX2_readPiece_134 rfl rfl (fun _ => ?_) (fun q => absurd c1 q)
    refine g_bipush (6) 144 dX2_readPiece_142 rfl rfl ?_
    refine g_istore 146 [(4, .int (6)), (3, .int (0)), (0, .ref a0), (2, .int (x2))] dX2_readPiece_144 rfl (Nat.le_of_ble_eq_true rfl) rfl ?_
    refine g_iload_n 3 147 dX2_readPiece_146 rfl rfl ?_
    refine g_iload_n 1 148 dX2_readPiece_147 rfl rfl ?_
    refine g_icmp_lt 170 151 dX2_readPiece_148 rfl rfl (fun c2 => ?_) (fun c2 => ?_)
    · skip
      replace H := H.1 c2
      refine g_iload_n 3 171 dX2_readPiece_170 rfl rfl ?_
      refine g_bipush (23) 173 dX2_readPiece_171 rfl rfl ?_
      refine g_icmp_ne 212 176 dX2_readPiece_173 rfl rfl (fun c3 => ?_) (fun c3 => ?_)
      · skip
        replace H := H.1 c3
        refine g_aload_n 2 213 dX2_readPiece_212 rfl rfl ?_
        refine g_callV (mc1 := 0) (ms1 := 0) (b := a0) (rest := []) (av := []) kX2_fail 216 dX2_readPiece_213 rfl rfl mbX2_74 imX2_fail seX2_fail gcl2.1 s0.1 (Nat.le_of_ble_eq_true rfl) (Nat.zero_le _) (Nat.zero_le _) (uX2_fail (N := N) (K := 0) s0 H (fun v1 M1 jj H => ?_))
        have j1 : Sm M M1 := jj
        show Go X (d + (n + 1) + 3) mc ms kX2_readPiece Q 216 [(4, .int (6)), (3, .int (0)), (0, .ref a0), (2, .int (x2))] [.int (v1)] M1 0 0
        obtain ⟨b1, H⟩ := H
        exact g_zret dX2_readPiece_216 rfl b1 (Nat.zero_le _) (Nat.zero_le _) (hR _ _ _ j1 H)
      · skip
        replace H := H.2 c3
        refine g_aload_n 2 177 dX2_readPiece_176 rfl rfl ?_
        refine g_getR 180 (a0 + 13) dX2_readPiece_177 rfl flX2_41 s0.1 s0.2.2.2.2.2.2.2.2.2.2.2.2.2.1 ?_
        refine g_aload_n 2 181 dX2_readPiece_180 rfl rfl ?_
        refine g_getI 184 dX2_readPiece_181 rfl flX2_50 s0.1 ?_
        obtain ⟨b2, H⟩ := H
        refine h_iaload 185 ((g_mi M a0 10)).toNatClampNeg dX2_readPiece_184 rfl rfl s0.2.2.2.2.2.2.2.2.2.2.2.2.2.2 b2 ?_
        refine g_sipush (1000) 188 dX2_readPiece_185 rfl rfl ?_
        refine g_icmp_gt 212 191 dX2_readPiece_188 rfl rfl (fun c4 => ?_) (fun c4 => ?_)
        · skip
          replace H := H.1 c4
          refine g_aload_n 2 213 dX2_readPiece_212 rfl rfl ?_
          refine g_callV (mc1 := 0) (ms1 := 0) (b := a0) (rest := []) (av := []) kX2_fail 216 dX2_readPiece_213 rfl rfl mbX2_74 imX2_fail seX2_fail gcl2.1 s0.1 (Nat.le_of_ble_eq_true rfl) (Nat.zero_le _) (Nat.zero_le _) (uX2_fail (N := N) (K := 0) s0 H (fun v2 M2 jj H => ?_))
          have j2 : Sm M M2 := jj
          show Go X (d + (n + 1) + 3) mc ms kX2_readPiece Q 216 [(4, .int (6)), (3, .int (0)), (0, .ref a0), (2, .int (x2))] [.int (v2)] M2 0 0
          obtain ⟨b3, H⟩ := H
          exact g_zret dX2_readPiece_216 rfl b3 (Nat.zero_le _) (Nat.zero_le _) (hR _ _ _ j2 H)
        · skip
          replace H := H.2 c4
          refine g_aload_n 2 192 dX2_readPiece_191 rfl rfl ?_
          refine g_getR 195 (a0 + 2) dX2_readPiece_192 rfl flX2_20 s0.1 s0.2.2.2.1 ?_
          refine g_iconst (1) 196 dX2_readPiece_195 rfl rfl ?_
          refine g_aload_n 2 197 dX2_readPiece_196 rfl rfl ?_
          refine g_getR 200 (a0 + 13) dX2_readPiece_197 rfl flX2_41 s0.1 s0.2.2.2.2.2.2.2.2.2.2.2.2.2.1 ?_
          refine g_aload_n 2 201 dX2_readPiece_200 rfl rfl ?_
          refine g_getI 204 dX2_readPiece_201 rfl flX2_50 s0.1 ?_
          refine h_iaload 205 ((g_mi M a0 10)).toNatClampNeg dX2_readPiece_204 rfl rfl s0.2.2.2.2.2.2.2.2.2.2.2.2.2.2 b2 ?_
          refine g_callV (mc1 := 0) (ms1 := 0) (b := (a0 + 2)) (rest := []) (av := [.int (1), .int ((g_mi M (a0 + 13) ((g_mi M a0 10)).toNatClampNeg))]) kX6_put 208 dX2_readPiece_205 rfl rfl mbX2_124 imX6_put seX6_put gcl6.1 s0.2.2.2.2.1.1 (Nat.le_of_ble_eq_true rfl) (Nat.zero_le _) (Nat.zero_le _) (uX6_put (N := N) (K := 0) s0.2.2.2.2.1 H (fun v3 M3 jj H => ?_))
          have j3 : Sm M M3 := jj
          show Go X (d + (n + 1) + 3) mc ms kX2_readPiece Q 208 [(4, .int (6)), (3, .int (0)), (0, .ref a0), (2, .int (x2))] [.int (v3)] M3 0 0
          refine g_pop 209 dX2_readPiece_208 rfl rfl ?_
          refine g_goto 217 dX2_readPiece_209 rfl ?_
          refine g_aload_n 2 218 dX2_readPiece_217 rfl rfl ?_
          refine g_callV (mc1 := 0) (ms1 := 0) (b := a0) (rest := []) (av := []) kX2_pass 221 dX2_readPiece_218 rfl rfl mbX2_111 imX2_pass seX2_pass gcl2.1 (Sm.k j3 s0.1) (Nat.le_of_ble_eq_true rfl) (Nat.zero_le _) (Nat.zero_le _) (uX2_pass (N := N) (K := 0) (Re.sm j3 s0) H (fun M4 jj H => ?_))
          have j4 : Sm M M4 := Sm.tr j3 jj
          show Go X (d + (n + 1) + 3) mc ms kX2_readPiece Q 221 [(4, .int (6)), (3, .int (0)), (0, .ref a0), (2, .int (x2))] [] M4 0 0
          refine g_iconst (1) 222 dX2_readPiece_221 rfl rfl ?_
          exact g_zret dX2_readPiece_222 rfl (by decide) (Nat.zero_le _) (Nat.zero_le _) (hR _ _ _ j4 H)
    · skip
      replace H := H.2 c2
      refine g_iload_n 3 152 dX2_readPiece_151 rfl rfl ?_
      refine g_iload 0 154 dX2_readPiece_152 rfl rfl ?_
      refine g_icmp_gt 170 157 dX2_readPiece_154 rfl rfl (fun c5 => ?_) (fun c5 => ?_)
      · skip
        replace H := H.1 c5
        refine g_iload_n 3 171 dX2_readPiece_170 rfl rfl ?_
        refine g_bipush (23) 173 dX2_readPiece_171 rfl rfl ?_
        refine g_icmp_ne 212 176 dX2_readPiece_173 rfl rfl (fun c6 => ?_) (fun c6 => ?_)
        · skip
          replace H := H.1 c6
          refine g_aload_n 2 213 dX2_readPiece_212 rfl rfl ?_
          refine g_callV (mc1 := 0) (ms1 := 0) (b := a0) (rest := []) (av := []) kX2_fail 216 dX2_readPiece_213 rfl rfl mbX2_74 imX2_fail seX2_fail gcl2.1 s0.1 (Nat.le_of_ble_eq_true rfl) (Nat.zero_le _) (Nat.zero_le _) (uX2_fail (N := N) (K := 0) s0 H (fun v4 M5 jj H => ?_))
          have j5 : Sm M M5 := jj
          show Go X (d + (n + 1) + 3) mc ms kX2_readPiece Q 216 [(4, .int (6)), (3, .int (0)), (0, .ref a0), (2, .int (x2))] [.int (v4)] M5 0 0
          obtain ⟨b4, H⟩ := H
          exact g_zret dX2_readPiece_216 rfl b4 (Nat.zero_le _) (Nat.zero_le _) (hR _ _ _ j5 H)
        · skip
          replace H := H.2 c6
          refine g_aload_n 2 177 dX2_readPiece_176 rfl rfl ?_
          refine g_getR 180 (a0 + 13) dX2_readPiece_177 rfl flX2_41 s0.1 s0.2.2.2.2.2.2.2.2.2.2.2.2.2.1 ?_
          refine g_aload_n 2 181 dX2_readPiece_180 rfl rfl ?_
          refine g_getI 184 dX2_readPiece_181 rfl flX2_50 s0.1 ?_
          obtain ⟨b5, H⟩ := H
          refine h_iaload 185 ((g_mi M a0 10)).toNatClampNeg dX2_readPiece_184 rfl rfl s0.2.2.2.2.2.2.2.2.2.2.2.2.2.2 b5 ?_
          refine g_sipush (1000) 188 dX2_readPiece_185 rfl rfl ?_
          refine g_icmp_gt 212 191 dX2_readPiece_188 rfl rfl (fun c7 => ?_) (fun c7 => ?_)
          · skip
            replace H := H.1 c7
            refine g_aload_n 2 213 dX2_readPiece_212 rfl rfl ?_
            refine g_callV (mc1 := 0) (ms1 := 0) (b := a0) (rest := []) (av := []) kX2_fail 216 dX2_readPiece_213 rfl rfl mbX2_74 imX2_fail seX2_fail gcl2.1 s0.1 (Nat.le_of_ble_eq_true rfl) (Nat.zero_le _) (Nat.zero_le _) (uX2_fail (N := N) (K := 0) s0 H (fun v5 M6 jj H => ?_))
            have j6 : Sm M M6 := jj
            show Go X (d + (n + 1) + 3) mc ms kX2_readPiece Q 216 [(4, .int (6)), (3, .int (0)), (0, .ref a0), (2, .int (x2))] [.int (v5)] M6 0 0
            obtain ⟨b6, H⟩ := H
            exact g_zret dX2_readPiece_216 rfl b6 (Nat.zero_le _) (Nat.zero_le _) (hR _ _ _ j6 H)
          · skip
            replace H := H.2 c7
            refine g_aload_n 2 192 dX2_readPiece_191 rfl rfl ?_
            refine g_getR 195 (a0 + 2) dX2_readPiece_192 rfl flX2_20 s0.1 s0.2.2.2.1 ?_
            refine g_iconst (1) 196 dX2_readPiece_195 rfl rfl ?_
            refine g_aload_n 2 197 dX2_readPiece_196 rfl rfl ?_
            refine g_getR 200 (a0 + 13) dX2_readPiece_197 rfl flX2_41 s0.1 s0.2.2.2.2.2.2.2.2.2.2.2.2.2.1 ?_
            refine g_aload_n 2 201 dX2_readPiece_200 rfl rfl ?_
            refine g_getI 204 dX2_readPiece_201 rfl flX2_50 s0.1 ?_
            refine h_iaload 205 ((g_mi M a0 10)).toNatClampNeg dX2_readPiece_204 rfl rfl s0.2.2.2.2.2.2.2.2.2.2.2.2.2.2 b5 ?_
            refine g_callV (mc1 := 0) (ms1 := 0) (b := (a0 + 2)) (rest := []) (av := [.int (1), .int ((g_mi M (a0 + 13) ((g_mi M a0 10)).toNatClampNeg))]) kX6_put 208 dX2_readPiece_205 rfl rfl mbX2_124 imX6_put seX6_put gcl6.1 s0.2.2.2.2.1.1 (Nat.le_of_ble_eq_true rfl) (Nat.zero_le _) (Nat.zero_le _) (uX6_put (N := N) (K := 0) s0.2.2.2.2.1 H (fun v6 M7 jj H => ?_))
            have j7 : Sm M M7 := jj
            show Go X (d + (n + 1) + 3) mc ms kX2_readPiece Q 208 [(4, .int (6)), (3, .int (0)), (0, .ref a0), (2, .int (x2))] [.int (v6)] M7 0 0
            refine g_pop 209 dX2_readPiece_208 rfl rfl ?_
            refine g_goto 217 dX2_readPiece_209 rfl ?_
            refine g_aload_n 2 218 dX2_readPiece_217 rfl rfl ?_
            refine g_callV (mc1 := 0) (ms1 := 0) (b := a0) (rest := []) (av := []) kX2_pass 221 dX2_readPiece_218 rfl rfl mbX2_111 imX2_pass seX2_pass gcl2.1 (Sm.k j7 s0.1) (Nat.le_of_ble_eq_true rfl) (Nat.zero_le _) (Nat.zero_le _) (uX2_pass (N := N) (K := 0) (Re.sm j7 s0) H (fun M8 jj H => ?_))
            have j8 : Sm M M8 := Sm.tr j7 jj
            show Go X (d + (n + 1) + 3) mc ms kX2_readPiece Q 221 [(4, .int (6)), (3, .int (0)), (0, .ref a0), (2, .int (x2))] [] M8 0 0
            refine g_iconst (1) 222 dX2_readPiece_221 rfl rfl ?_
            exact g_zret dX2_readPiece_222 rfl (by decide) (Nat.zero_le _) (Nat.zero_le _) (hR _ _ _ j8 H)
      · skip
        replace H := H.2 c5
        refine g_aload_n 2 158 dX2_readPiece_157 rfl rfl ?_
        refine g_getR 161 (a0 + 2) dX2_readPiece_158 rfl flX2_20 s0.1 s0.2.2.2.1 ?_
        refine g_iconst (2) 162 dX2_readPiece_161 rfl rfl ?_
        refine g_iload_n 3 163 dX2_readPiece_162 rfl rfl ?_
        refine g_callV (mc1 := 0) (ms1 := 0) (b := (a0 + 2)) (rest := []) (av := [.int (2), .int (x2)]) kX6_put 166 dX2_readPiece_163 rfl rfl mbX2_124 imX6_put seX6_put gcl6.1 s0.2.2.2.2.1.1 (Nat.le_of_ble_eq_true rfl) (Nat.zero_le _) (Nat.zero_le _) (uX6_put (N := N) (K := 0) s0.2.2.2.2.1 H (fun v7 M9 jj H => ?_))
        have j9 : Sm M M9 := jj
        show Go X (d + (n + 1) + 3) mc ms kX2_readPiece Q 166 [(4, .int (6)), (3, .int (0)), (0, .ref a0), (2, .int (x2))] [.int (v7)] M9 0 0
        refine g_pop 167 dX2_readPiece_166 rfl rfl ?_
        refine g_goto 217 dX2_readPiece_167 rfl ?_
        refine g_aload_n 2 218 dX2_readPiece_217 rfl rfl ?_
        refine g_callV (mc1 := 0) (ms1 := 0) (b := a0) (rest := []) (av := []) kX2_pass 221 dX2_readPiece_218 rfl rfl mbX2_111 imX2_pass seX2_pass gcl2.1 (Sm.k j9 s0.1) (Nat.le_of_ble_eq_true rfl) (Nat.zero_le _) (Nat.zero_le _) (uX2_pass (N := N) (K := 0) (Re.sm j9 s0) H (fun M10 jj H => ?_))
        have j10 : Sm M M10 := Sm.tr j9 jj
        show Go X (d + (n + 1) + 3) mc ms kX2_readPiece Q 221 [(4, .int (6)), (3, .int (0)), (0, .ref a0), (2, .int (x2))] [] M10 0 0
        refine g_iconst (1) 222 dX2_readPiece_221 rfl rfl ?_
        exact g_zret dX2_readPiece_222 rfl (by decide) (Nat.zero_le _) (Nat.zero_le _) (hR _ _ _ j10 H)
  · skip
    replace H := H.2 c1
    refine g_bipush (6) 125 dX2_readPiece_123 rfl rfl ?_
    refine g_goto 129 dX2_readPiece_125 rfl ?_
    refine g_istore_n 130 [(3, .int (6)), (0, .ref a0), (2, .int (x2))] dX2_readPiece_129 rfl (Nat.le_of_ble_eq_true rfl) rfl ?_
    refine g_aload_n 1 131 dX2_readPiece_130 rfl rfl ?_
    refine g_getI 134 dX2_readPiece_131 rfl flX2_59 s0.1 ?_
    refine g_if_eq 142 137 dX2_readPiece_134 rfl rfl (fun q => absurd q c1) (fun _ => ?_)
    refine g_bipush (9) 139 dX2_readPiece_137 rfl rfl ?_
    refine g_goto 144 dX2_readPiece_139 rfl ?_
    refine g_istore 146 [(4, .int (9)), (3, .int (6)), (0, .ref a0), (2, .int (x2))] dX2_readPiece_144 rfl (Nat.le_of_ble_eq_true rfl) rfl ?_
    refine g_iload_n 3 147 dX2_readPiece_146 rfl rfl ?_
    refine g_iload_n 1 148 dX2_readPiece_147 rfl rfl ?_
    refine g_icmp_lt 170 151 dX2_readPiece_148 rfl rfl (fun c8 => ?_) (fun c8 => ?_)
    · skip
      replace H := H.1 c8
      refine g_iload_n 3 171 dX2_readPiece_170 rfl rfl ?_
      refine g_bipush (23) 173 dX2_readPiece_171 rfl rfl ?_
      refine g_icmp_ne 212 176 dX2_readPiece_173 rfl rfl (fun c9 => ?_) (fun c9 => ?_)
      · skip
        replace H := H.1 c9
        refine g_aload_n 2 213 dX2_readPiece_212 rfl rfl ?_
        refine g_callV (mc1 := 0) (ms1 := 0) (b := a0) (rest := []) (av := []) kX2_fail 216 dX2_readPiece_213 rfl rfl mbX2_74 imX2_fail seX2_fail gcl2.1 s0.1 (Nat.le_of_ble_eq_true rfl) (Nat.zero_le _) (Nat.zero_le _) (uX2_fail (N := N) (K := 0) s0 H (fun v8 M11 jj H => ?_))
        have j11 : Sm M M11 := jj
        show Go X (d + (n + 1) + 3) mc ms kX2_readPiece Q 216 [(4, .int (9)), (3, .int (6)), (0, .ref a0), (2, .int (x2))] [.int (v8)] M11 0 0
        obtain ⟨b7, H⟩ := H
        exact g_zret dX2_readPiece_216 rfl b7 (Nat.zero_le _) (Nat.zero_le _) (hR _ _ _ j11 H)
      · skip
        replace H := H.2 c9
        refine g_aload_n 2 177 dX2_readPiece_176 rfl rfl ?_
        refine g_getR 180 (a0 + 13) dX2_readPiece_177 rfl flX2_41 s0.1 s0.2.2.2.2.2.2.2.2.2.2.2.2.2.1 ?_
        refine g_aload_n 2 181 dX2_readPiece_180 rfl rfl ?_
        refine g_getI 184 dX2_readPiece_181 rfl flX2_50 s0.1 ?_
        obtain ⟨b8, H⟩ := H
        refine h_iaload 185 ((g_mi M a0 10)).toNatClampNeg dX2_readPiece_184 rfl rfl s0.2.2.2.2.2.2.2.2.2.2.2.2.2.2 b8 ?_
        refine g_sipush (1000) 188 dX2_readPiece_185 rfl rfl ?_
        refine g_icmp_gt 212 191 dX2_readPiece_188 rfl rfl (fun c10 => ?_) (fun c10 => ?_)
        · skip
          replace H := H.1 c10
          refine g_aload_n 2 213 dX2_readPiece_212 rfl rfl ?_
          refine g_callV (mc1 := 0) (ms1 := 0) (b := a0) (rest := []) (av := []) kX2_fail 216 dX2_readPiece_213 rfl rfl mbX2_74 imX2_fail seX2_fail gcl2.1 s0.1 (Nat.le_of_ble_eq_true rfl) (Nat.zero_le _) (Nat.zero_le _) (uX2_fail (N := N) (K := 0) s0 H (fun v9 M12 jj H => ?_))
          have j12 : Sm M M12 := jj
          show Go X (d + (n + 1) + 3) mc ms kX2_readPiece Q 216 [(4, .int (9)), (3, .int (6)), (0, .ref a0), (2, .int (x2))] [.int (v9)] M12 0 0
          obtain ⟨b9, H⟩ := H
          exact g_zret dX2_readPiece_216 rfl b9 (Nat.zero_le _) (Nat.zero_le _) (hR _ _ _ j12 H)
        · skip
          replace H := H.2 c10
          refine g_aload_n 2 192 dX2_readPiece_191 rfl rfl ?_
          refine g_getR 195 (a0 + 2) dX2_readPiece_192 rfl flX2_20 s0.1 s0.2.2.2.1 ?_
          refine g_iconst (1) 196 dX2_readPiece_195 rfl rfl ?_
          refine g_aload_n 2 197 dX2_readPiece_196 rfl rfl ?_
          refine g_getR 200 (a0 + 13) dX2_readPiece_197 rfl flX2_41 s0.1 s0.2.2.2.2.2.2.2.2.2.2.2.2.2.1 ?_
          refine g_aload_n 2 201 dX2_readPiece_200 rfl rfl ?_
          refine g_getI 204 dX2_readPiece_201 rfl flX2_50 s0.1 ?_
          refine h_iaload 205 ((g_mi M a0 10)).toNatClampNeg dX2_readPiece_204 rfl rfl s0.2.2.2.2.2.2.2.2.2.2.2.2.2.2 b8 ?_
          refine g_callV (mc1 := 0) (ms1 := 0) (b := (a0 + 2)) (rest := []) (av := [.int (1), .int ((g_mi M (a0 + 13) ((g_mi M a0 10)).toNatClampNeg))]) kX6_put 208 dX2_readPiece_205 rfl rfl mbX2_124 imX6_put seX6_put gcl6.1 s0.2.2.2.2.1.1 (Nat.le_of_ble_eq_true rfl) (Nat.zero_le _) (Nat.zero_le _) (uX6_put (N := N) (K := 0) s0.2.2.2.2.1 H (fun v10 M13 jj H => ?_))
          have j13 : Sm M M13 := jj
          show Go X (d + (n + 1) + 3) mc ms kX2_readPiece Q 208 [(4, .int (9)), (3, .int (6)), (0, .ref a0), (2, .int (x2))] [.int (v10)] M13 0 0
          refine g_pop 209 dX2_readPiece_208 rfl rfl ?_
          refine g_goto 217 dX2_readPiece_209 rfl ?_
          refine g_aload_n 2 218 dX2_readPiece_217 rfl rfl ?_
          refine g_callV (mc1 := 0) (ms1 := 0) (b := a0) (rest := []) (av := []) kX2_pass 221 dX2_readPiece_218 rfl rfl mbX2_111 imX2_pass seX2_pass gcl2.1 (Sm.k j13 s0.1) (Nat.le_of_ble_eq_true rfl) (Nat.zero_le _) (Nat.zero_le _) (uX2_pass (N := N) (K := 0) (Re.sm j13 s0) H (fun M14 jj H => ?_))
          have j14 : Sm M M14 := Sm.tr j13 jj
          show Go X (d + (n + 1) + 3) mc ms kX2_readPiece Q 221 [(4, .int (9)), (3, .int (6)), (0, .ref a0), (2, .int (x2))] [] M14 0 0
          refine g_iconst (1) 222 dX2_readPiece_221 rfl rfl ?_
          exact g_zret dX2_readPiece_222 rfl (by decide) (Nat.zero_le _) (Nat.zero_le _) (hR _ _ _ j14 H)
    · skip
      replace H := H.2 c8
      refine g_iload_n 3 152 dX2_readPiece_151 rfl rfl ?_
      refine g_iload 0 154 dX2_readPiece_152 rfl rfl ?_
      refine g_icmp_gt 170 157 dX2_readPiece_154 rfl rfl (fun c11 => ?_) (fun c11 => ?_)
      · skip
        replace H := H.1 c11
        refine g_iload_n 3 171 dX2_readPiece_170 rfl rfl ?_
        refine g_bipush (23) 173 dX2_readPiece_171 rfl rfl ?_
        refine g_icmp_ne 212 176 dX2_readPiece_173 rfl rfl (fun c12 => ?_) (fun c12 => ?_)
        · skip
          replace H := H.1 c12
          refine g_aload_n 2 213 dX2_readPiece_212 rfl rfl ?_
          refine g_callV (mc1 := 0) (ms1 := 0) (b := a0) (rest := []) (av := []) kX2_fail 216 dX2_readPiece_213 rfl rfl mbX2_74 imX2_fail seX2_fail gcl2.1 s0.1 (Nat.le_of_ble_eq_true rfl) (Nat.zero_le _) (Nat.zero_le _) (uX2_fail (N := N) (K := 0) s0 H (fun v11 M15 jj H => ?_))
          have j15 : Sm M M15 := jj
          show Go X (d + (n + 1) + 3) mc ms kX2_readPiece Q 216 [(4, .int (9)), (3, .int (6)), (0, .ref a0), (2, .int (x2))] [.int (v11)] M15 0 0
          obtain ⟨b10, H⟩ := H
          exact g_zret dX2_readPiece_216 rfl b10 (Nat.zero_le _) (Nat.zero_le _) (hR _ _ _ j15 H)
        · skip
          replace H := H.2 c12
          refine g_aload_n 2 177 dX2_readPiece_176 rfl rfl ?_
          refine g_getR 180 (a0 + 13) dX2_readPiece_177 rfl flX2_41 s0.1 s0.2.2.2.2.2.2.2.2.2.2.2.2.2.1 ?_
          refine g_aload_n 2 181 dX2_readPiece_180 rfl rfl ?_
          refine g_getI 184 dX2_readPiece_181 rfl flX2_50 s0.1 ?_
          obtain ⟨b11, H⟩ := H
          refine h_iaload 185 ((g_mi M a0 10)).toNatClampNeg dX2_readPiece_184 rfl rfl s0.2.2.2.2.2.2.2.2.2.2.2.2.2.2 b11 ?_
          refine g_sipush (1000) 188 dX2_readPiece_185 rfl rfl ?_
          refine g_icmp_gt 212 191 dX2_readPiece_188 rfl rfl (fun c13 => ?_) (fun c13 => ?_)
          · skip
            replace H := H.1 c13
            refine g_aload_n 2 213 dX2_readPiece_212 rfl rfl ?_
            refine g_callV (mc1 := 0) (ms1 := 0) (b := a0) (rest := []) (av := []) kX2_fail 216 dX2_readPiece_213 rfl rfl mbX2_74 imX2_fail seX2_fail gcl2.1 s0.1 (Nat.le_of_ble_eq_true rfl) (Nat.zero_le _) (Nat.zero_le _) (uX2_fail (N := N) (K := 0) s0 H (fun v12 M16 jj H => ?_))
            have j16 : Sm M M16 := jj
            show Go X (d + (n + 1) + 3) mc ms kX2_readPiece Q 216 [(4, .int (9)), (3, .int (6)), (0, .ref a0), (2, .int (x2))] [.int (v12)] M16 0 0
            obtain ⟨b12, H⟩ := H
            exact g_zret dX2_readPiece_216 rfl b12 (Nat.zero_le _) (Nat.zero_le _) (hR _ _ _ j16 H)
          · skip
            replace H := H.2 c13
            refine g_aload_n 2 192 dX2_readPiece_191 rfl rfl ?_
            refine g_getR 195 (a0 + 2) dX2_readPiece_192 rfl flX2_20 s0.1 s0.2.2.2.1 ?_
            refine g_iconst (1) 196 dX2_readPiece_195 rfl rfl ?_
            refine g_aload_n 2 197 dX2_readPiece_196 rfl rfl ?_
            refine g_getR 200 (a0 + 13) dX2_readPiece_197 rfl flX2_41 s0.1 s0.2.2.2.2.2.2.2.2.2.2.2.2.2.1 ?_
            refine g_aload_n 2 201 dX2_readPiece_200 rfl rfl ?_
            refine g_getI 204 dX2_readPiece_201 rfl flX2_50 s0.1 ?_
            refine h_iaload 205 ((g_mi M a0 10)).toNatClampNeg dX2_readPiece_204 rfl rfl s0.2.2.2.2.2.2.2.2.2.2.2.2.2.2 b11 ?_
            refine g_callV (mc1 := 0) (ms1 := 0) (b := (a0 + 2)) (rest := []) (av := [.int (1), .int ((g_mi M (a0 + 13) ((g_mi M a0 10)).toNatClampNeg))]) kX6_put 208 dX2_readPiece_205 rfl rfl mbX2_124 imX6_put seX6_put gcl6.1 s0.2.2.2.2.1.1 (Nat.le_of_ble_eq_true rfl) (Nat.zero_le _) (Nat.zero_le _) (uX6_put (N := N) (K := 0) s0.2.2.2.2.1 H (fun v13 M17 jj H => ?_))
            have j17 : Sm M M17 := jj
            show Go X (d + (n + 1) + 3) mc ms kX2_readPiece Q 208 [(4, .int (9)), (3, .int (6)), (0, .ref a0), (2, .int (x2))] [.int (v13)] M17 0 0
            refine g_pop 209 dX2_readPiece_208 rfl rfl ?_
            refine g_goto 217 dX2_readPiece_209 rfl ?_
            refine g_aload_n 2 218 dX2_readPiece_217 rfl rfl ?_
            refine g_callV (mc1 := 0) (ms1 := 0) (b := a0) (rest := []) (av := []) kX2_pass 221 dX2_readPiece_218 rfl rfl mbX2_111 imX2_pass seX2_pass gcl2.1 (Sm.k j17 s0.1) (Nat.le_of_ble_eq_true rfl) (Nat.zero_le _) (Nat.zero_le _) (uX2_pass (N := N) (K := 0) (Re.sm j17 s0) H (fun M18 jj H => ?_))
            have j18 : Sm M M18 := Sm.tr j17 jj
            show Go X (d + (n + 1) + 3) mc ms kX2_readPiece Q 221 [(4, .int (9)), (3, .int (6)), (0, .ref a0), (2, .int (x2))] [] M18 0 0
            refine g_iconst (1) 222 dX2_readPiece_221 rfl rfl ?_
            exact g_zret dX2_readPiece_222 rfl (by decide) (Nat.zero_le _) (Nat.zero_le _) (hR _ _ _ j18 H)
      · skip
        replace H := H.2 c11
        refine g_aload_n 2 158 dX2_readPiece_157 rfl rfl ?_
        refine g_getR 161 (a0 + 2) dX2_readPiece_158 rfl flX2_20 s0.1 s0.2.2.2.1 ?_
        refine g_iconst (2) 162 dX2_readPiece_161 rfl rfl ?_
        refine g_iload_n 3 163 dX2_readPiece_162 rfl rfl ?_
        refine g_callV (mc1 := 0) (ms1 := 0) (b := (a0 + 2)) (rest := []) (av := [.int (2), .int (x2)]) kX6_put 166 dX2_readPiece_163 rfl rfl mbX2_124 imX6_put seX6_put gcl6.1 s0.2.2.2.2.1.1 (Nat.le_of_ble_eq_true rfl) (Nat.zero_le _) (Nat.zero_le _) (uX6_put (N := N) (K := 0) s0.2.2.2.2.1 H (fun v14 M19 jj H => ?_))
        have j19 : Sm M M19 := jj
        show Go X (d + (n + 1) + 3) mc ms kX2_readPiece Q 166 [(4, .int (9)), (3, .int (6)), (0, .ref a0), (2, .int (x2))] [.int (v14)] M19 0 0
        refine g_pop 167 dX2_readPiece_166 rfl rfl ?_
        refine g_goto 217 dX2_readPiece_167 rfl ?_
        refine g_aload_n 2 218 dX2_readPiece_217 rfl rfl ?_
        refine g_callV (mc1 := 0) (ms1 := 0) (b := a0) (rest := []) (av := []) kX2_pass 221 dX2_readPiece_218 rfl rfl mbX2_111 imX2_pass seX2_pass gcl2.1 (Sm.k j19 s0.1) (Nat.le_of_ble_eq_true rfl) (Nat.zero_le _) (Nat.zero_le _) (uX2_pass (N := N) (K := 0) (Re.sm j19 s0) H (fun M20 jj H => ?_))
        have j20 : Sm M M20 := Sm.tr j19 jj
        show Go X (d + (n + 1) + 3) mc ms kX2_readPiece Q 221 [(4, .int (9)), (3, .int (6)), (0, .ref a0), (2, .int (x2))] [] M20 0 0
        refine g_iconst (1) 222 dX2_readPiece_221 rfl rfl ?_
        exact g_zret dX2_readPiece_222 rfl (by decide) (Nat.zero_le _) (Nat.zero_le _) (hR _ _ _ j20 H)
set_option maxRecDepth 10000 in
theorem uxX2_readPlain_45 {X : gX} {N : Nat} {n : Nat} (ih : UgCP X N n) {d mc ms : Nat} {Q : Option Value → gM → Prop} {M : gM} {a0 : Nat} {x1 : Int32} {x2 : Int32} {R : Int32 → Int64 → gM → Prop} (s0 : Re M a0) (H : pX2_readPlain_45 N (qgCP N n) R M a0 x1 x2) (hR : ∀ (v : Int32) (w : Int64) (M1 : gM), Sm M M1 → R v w M1 → Q (some (.int v)) M1) : Go X (d + (n + 1) + 3) mc ms kX2_readPlain Q 45 [(0, .ref a0), (1, .int (x1)), (2, .int (x2))] [] M 0 0 := by
  unfold pX2_readPlain_45 at H
  refine g_aload_n 0 46 dX2_readPlain_45 rfl rfl ?_
  refine g_bipush (40) 48 dX2_readPlain_46 rfl rfl ?_
  obtain ⟨b1, H⟩ := H
  refine g_callV (mc1 := 0) (ms1 := 0) (b := a0) (rest := []) (av := [.int (40)]) kX2_isMark 51 dX2_readPlain_48 rfl rfl mbX2_152 imX2_isMark seX2_isMark gcl2.1 s0.1 (Nat.le_of_ble_eq_true rfl) (Nat.zero_le _) (Nat.zero_le _) (tX2_isMark s0 b1 ?_)
  show Go X (d + (n + 1) + 3) mc ms kX2_readPlain Q 51 [(0, .ref a0), (1, .int (x1)), (2, .int (x2))] [.int ((fX2_isMark M a0 40))] M 0 0
  generalize hv1 : (fX2_isMark M a0 40) = v1
  replace H := H v1 hv1.symm
  refine g_if_eq 90 54 dX2_readPlain_51 rfl rfl (fun c1 => ?_) (fun c1 => ?_)
  · skip
    replace H := H.1 c1
    refine g_aload_n 0 91 dX2_readPlain_90 rfl rfl ?_
    refine g_iload_n 1 92 dX2_readPlain_91 rfl rfl ?_
    refine g_callV (mc1 := 0) (ms1 := 0) (b := a0) (rest := []) (av := [.int (x1)]) kX2_readSum 95 dX2_readPlain_92 rfl rfl mbX2_127 imX2_readSum seX2_readSum gcl2.1 s0.1 (Nat.le_of_ble_eq_true rfl) (Nat.zero_le _) (Nat.zero_le _) ((ih.2.2.2.2.2.2.1) d _ 0 0 _ M a0 x1 0 0 _ (by omega) s0 H (fun v2 w2 M1 jj H => ?_))
    have j1 : Sm M M1 := jj
    show Go X (d + (n + 1) + 3) mc ms kX2_readPlain Q 95 [(0, .ref a0), (1, .int (x1)), (2, .int (x2))] [.int (v2)] M1 0 0
    refine g_if_ne 100 98 dX2_readPlain_95 rfl rfl (fun c2 => ?_) (fun c2 => ?_)
    · skip
      replace H := H.1 c2
      refine g_aload_n 0 101 dX2_readPlain_100 rfl rfl ?_
      refine g_bipush (60) 103 dX2_readPlain_101 rfl rfl ?_
      obtain ⟨b2, H⟩ := H
      refine g_callV (mc1 := 0) (ms1 := 0) (b := a0) (rest := []) (av := [.int (60)]) kX2_isMark 106 dX2_readPlain_103 rfl rfl mbX2_152 imX2_isMark seX2_isMark gcl2.1 (Sm.k j1 s0.1) (Nat.le_of_ble_eq_true rfl) (Nat.zero_le _) (Nat.zero_le _) (tX2_isMark (Re.sm j1 s0) b2 ?_)
      show Go X (d + (n + 1) + 3) mc ms kX2_readPlain Q 106 [(0, .ref a0), (1, .int (x1)), (2, .int (x2))] [.int ((fX2_isMark M1 a0 60))] M1 0 0
      generalize hv3 : (fX2_isMark M1 a0 60) = v3
      replace H := H v3 hv3.symm
      refine g_if_eq 114 109 dX2_readPlain_106 rfl rfl (fun c3 => ?_) (fun c3 => ?_)
      · skip
        replace H := H.1 c3
        refine g_aload_n 0 115 dX2_readPlain_114 rfl rfl ?_
        refine g_bipush (62) 117 dX2_readPlain_115 rfl rfl ?_
        obtain ⟨b3, H⟩ := H
        refine g_callV (mc1 := 0) (ms1 := 0) (b := a0) (rest := []) (av := [.int (62)]) kX2_isMark 120 dX2_readPlain_117 rfl rfl mbX2_152 imX2_isMark seX2_isMark gcl2.1 (Sm.k j1 s0.1) (Nat.le_of_ble_eq_true rfl) (Nat.zero_le _) (Nat.zero_le _) (tX2_isMark (Re.sm j1 s0) b3 ?_)
        show Go X (d + (n + 1) + 3) mc ms kX2_readPlain Q 120 [(0, .ref a0), (1, .int (x1)), (2, .int (x2))] [.int ((fX2_isMark M1 a0 62))] M1 0 0
        generalize hv4 : (fX2_isMark M1 a0 62) = v4
        replace H := H v4 hv4.symm
        refine g_if_eq 128 123 dX2_readPlain_120 rfl rfl (fun c4 => ?_) (fun c4 => ?_)
        · skip
          replace H := H.1 c4
          refine g_aload_n 0 129 dX2_readPlain_128 rfl rfl ?_
          refine g_bipush (61) 131 dX2_readPlain_129 rfl rfl ?_
          obtain ⟨b4, H⟩ := H
          refine g_callV (mc1 := 0) (ms1 := 0) (b := a0) (rest := []) (av := [.int (61)]) kX2_isMark 134 dX2_readPlain_131 rfl rfl mbX2_152 imX2_isMark seX2_isMark gcl2.1 (Sm.k j1 s0.1) (Nat.le_of_ble_eq_true rfl) (Nat.zero_le _) (Nat.zero_le _) (tX2_isMark (Re.sm j1 s0) b4 ?_)
          show Go X (d + (n + 1) + 3) mc ms kX2_readPlain Q 134 [(0, .ref a0), (1, .int (x1)), (2, .int (x2))] [.int ((fX2_isMark M1 a0 61))] M1 0 0
          generalize hv5 : (fX2_isMark M1 a0 61) = v5
          replace H := H v5 hv5.symm
          refine g_if_eq 142 137 dX2_readPlain_134 rfl rfl (fun c5 => ?_) (fun c5 => ?_)
          · skip
            replace H := H.1 c5
            refine g_iconst ((-1)) 143 dX2_readPlain_142 rfl rfl ?_
            refine g_istore_n 144 [(3, .int ((-1))), (0, .ref a0), (1, .int (x1)), (2, .int (x2))] dX2_readPlain_143 rfl (Nat.le_of_ble_eq_true rfl) rfl ?_
            refine g_iload_n 0 145 dX2_readPlain_144 rfl rfl ?_
            refine g_iconst ((-1)) 146 dX2_readPlain_145 rfl rfl ?_
            refine g_icmp_ne 154 149 dX2_readPlain_146 rfl rfl (fun q => absurd q (by decide)) (fun _ => ?_)
            refine g_aload_n 1 150 dX2_readPlain_149 rfl rfl ?_
            refine g_callV (mc1 := 0) (ms1 := 0) (b := a0) (rest := []) (av := []) kX2_fail 153 dX2_readPlain_150 rfl rfl mbX2_74 imX2_fail seX2_fail gcl2.1 (Sm.k j1 s0.1) (Nat.le_of_ble_eq_true rfl) (Nat.zero_le _) (Nat.zero_le _) (uX2_fail (N := N) (K := 0) (Re.sm j1 s0) H (fun v6 M2 jj H => ?_))
            have j2 : Sm M M2 := Sm.tr j1 jj
            show Go X (d + (n + 1) + 3) mc ms kX2_readPlain Q 153 [(3, .int ((-1))), (0, .ref a0), (1, .int (x1)), (2, .int (x2))] [.int (v6)] M2 0 0
            obtain ⟨b5, H⟩ := H
            exact g_zret dX2_readPlain_153 rfl b5 (Nat.zero_le _) (Nat.zero_le _) (hR _ _ _ j2 H)
          · skip
            replace H := H.2 c5
            refine g_bipush (13) 139 dX2_readPlain_137 rfl rfl ?_
            refine g_goto 143 dX2_readPlain_139 rfl ?_
            refine g_istore_n 144 [(3, .int (13)), (0, .ref a0), (1, .int (x1)), (2, .int (x2))] dX2_readPlain_143 rfl (Nat.le_of_ble_eq_true rfl) rfl ?_
            refine g_iload_n 0 145 dX2_readPlain_144 rfl rfl ?_
            refine g_iconst ((-1)) 146 dX2_readPlain_145 rfl rfl ?_
            refine g_icmp_ne 154 149 dX2_readPlain_146 rfl rfl (fun _ => ?_) (fun q => absurd q (by decide))
            refine g_aload_n 1 155 dX2_readPlain_154 rfl rfl ?_
            refine g_callV (mc1 := 0) (ms1 := 0) (b := a0) (rest := []) (av := []) kX2_pass 158 dX2_readPlain_155 rfl rfl mbX2_111 imX2_pass seX2_pass gcl2.1 (Sm.k j1 s0.1) (Nat.le_of_ble_eq_true rfl) (Nat.zero_le _) (Nat.zero_le _) (uX2_pass (N := N) (K := 0) (Re.sm j1 s0) H (fun M3 jj H => ?_))
            have j3 : Sm M M3 := Sm.tr j1 jj
            show Go X (d + (n + 1) + 3) mc ms kX2_readPlain Q 158 [(3, .int (13)), (0, .ref a0), (1, .int (x1)), (2, .int (x2))] [] M3 0 0
            refine g_aload_n 1 159 dX2_readPlain_158 rfl rfl ?_
            refine g_iload_n 2 160 dX2_readPlain_159 rfl rfl ?_
            refine g_callV (mc1 := 0) (ms1 := 0) (b := a0) (rest := []) (av := [.int (x1)]) kX2_readSum 163 dX2_readPlain_160 rfl rfl mbX2_127 imX2_readSum seX2_readSum gcl2.1 (Sm.k j3 s0.1) (Nat.le_of_ble_eq_true rfl) (Nat.zero_le _) (Nat.zero_le _) ((ih.2.2.2.2.2.2.1) d _ 0 0 _ M3 a0 x1 0 0 _ (by omega) (Re.sm j3 s0) H (fun v7 w7 M4 jj H => ?_))
            have j4 : Sm M M4 := (Sm.tr j3 jj)
            show Go X (d + (n + 1) + 3) mc ms kX2_readPlain Q 163 [(3, .int (13)), (0, .ref a0), (1, .int (x1)), (2, .int (x2))] [.int (v7)] M4 0 0
            refine g_if_ne 168 166 dX2_readPlain_163 rfl rfl (fun c6 => ?_) (fun c6 => ?_)
            · skip
              replace H := H.1 c6
              refine g_aload_n 1 169 dX2_readPlain_168 rfl rfl ?_
              refine g_getR 172 (a0 + 2) dX2_readPlain_169 rfl flX2_20 (Sm.k j4 s0.1) (Sm.r j4 s0.2.2.2.1) ?_
              refine g_iload_n 0 173 dX2_readPlain_172 rfl rfl ?_
              refine g_iconst (0) 174 dX2_readPlain_173 rfl rfl ?_
              refine g_callV (mc1 := 0) (ms1 := 0) (b := (a0 + 2)) (rest := []) (av := [.int (13), .int (0)]) kX6_put 177 dX2_readPlain_174 rfl rfl mbX2_124 imX6_put seX6_put gcl6.1 (Sm.k j4 s0.2.2.2.2.1.1) (Nat.le_of_ble_eq_true rfl) (Nat.zero_le _) (Nat.zero_le _) (uX6_put (N := N) (K := 0) (Tx.sm j4 s0.2.2.2.2.1) H (fun v8 M5 jj H => ?_))
              have j5 : Sm M M5 := Sm.tr j4 jj
              show Go X (d + (n + 1) + 3) mc ms kX2_readPlain Q 177 [(3, .int (13)), (0, .ref a0), (1, .int (x1)), (2, .int (x2))] [.int (v8)] M5 0 0
              refine g_pop 178 dX2_readPlain_177 rfl rfl ?_
              refine g_iload_n 3 179 dX2_readPlain_178 rfl rfl ?_
              refine g_if_eq 192 182 dX2_readPlain_179 rfl rfl (fun c7 => ?_) (fun c7 => ?_)
              · skip
                replace H := H.1 c7
                refine g_iconst (1) 193 dX2_readPlain_192 rfl rfl ?_
                exact g_zret dX2_readPlain_193 rfl (by decide) (Nat.zero_le _) (Nat.zero_le _) (hR _ _ _ j5 H)
              · skip
                replace H := H.2 c7
                refine g_aload_n 1 183 dX2_readPlain_182 rfl rfl ?_
                refine g_getR 186 (a0 + 2) dX2_readPlain_183 rfl flX2_20 (Sm.k j5 s0.1) (Sm.r j5 s0.2.2.2.1) ?_
                refine g_iconst (3) 187 dX2_readPlain_186 rfl rfl ?_
                refine g_iconst (0) 188 dX2_readPlain_187 rfl rfl ?_
                refine g_callV (mc1 := 0) (ms1 := 0) (b := (a0 + 2)) (rest := []) (av := [.int (3), .int (0)]) kX6_put 191 dX2_readPlain_188 rfl rfl mbX2_124 imX6_put seX6_put gcl6.1 (Sm.k j5 s0.2.2.2.2.1.1) (Nat.le_of_ble_eq_true rfl) (Nat.zero_le _) (Nat.zero_le _) (uX6_put (N := N) (K := 0) (Tx.sm j5 s0.2.2.2.2.1) H (fun v9 M6 jj H => ?_))
                have j6 : Sm M M6 := Sm.tr j5 jj
                show Go X (d + (n + 1) + 3) mc ms kX2_readPlain Q 191 [(3, .int (13)), (0, .ref a0), (1, .int (x1)), (2, .int (x2))] [.int (v9)] M6 0 0
                refine g_pop 192 dX2_readPlain_191 rfl rfl ?_
                refine g_iconst (1) 193 dX2_readPlain_192 rfl rfl ?_
                exact g_zret dX2_readPlain_193 rfl (by decide) (Nat.zero_le _) (Nat.zero_le _) (hR _ _ _ j6 H)
            · skip
              replace H := H.2 c6
              refine g_iconst (0) 167 dX2_readPlain_166 rfl rfl ?_
              exact g_zret dX2_readPlain_167 rfl (by decide) (Nat.zero_le _) (Nat.zero_le _) (hR _ _ _ j4 H)
        · skip
          replace H := H.2 c4
          refine g_bipush (12) 125 dX2_readPlain_123 rfl rfl ?_
          refine g_goto 143 dX2_readPlain_125 rfl ?_
          refine g_istore_n 144 [(3, .int (12)), (0, .ref a0), (1, .int (x1)), (2, .int (x2))] dX2_readPlain_143 rfl (Nat.le_of_ble_eq_true rfl) rfl ?_
          refine g_iload_n 0 145 dX2_readPlain_144 rfl rfl ?_
          refine g_iconst ((-1)) 146 dX2_readPlain_145 rfl rfl ?_
          refine g_icmp_ne 154 149 dX2_readPlain_146 rfl rfl (fun _ => ?_) (fun q => absurd q (by decide))
          refine g_aload_n 1 155 dX2_readPlain_154 rfl rfl ?_
          refine g_callV (mc1 := 0) (ms1 := 0) (b := a0) (rest := []) (av := []) kX2_pass 158 dX2_readPlain_155 rfl rfl mbX2_111 imX2_pass seX2_pass gcl2.1 (Sm.k j1 s0.1) (Nat.le_of_ble_eq_true rfl) (Nat.zero_le _) (Nat.zero_le _) (uX2_pass (N := N) (K := 0) (Re.sm j1 s0) H (fun M7 jj H => ?_))
          have j7 : Sm M M7 := Sm.tr j1 jj
          show Go X (d + (n + 1) + 3) mc ms kX2_readPlain Q 158 [(3, .int (12)), (0, .ref a0), (1, .int (x1)), (2, .int (x2))] [] M7 0 0
          refine g_aload_n 1 159 dX2_readPlain_158 rfl rfl ?_
          refine g_iload_n 2 160 dX2_readPlain_159 rfl rfl ?_
          refine g_callV (mc1 := 0) (ms1 := 0) (b := a0) (rest := []) (av := [.int (x1)]) kX2_readSum 163 dX2_readPlain_160 rfl rfl mbX2_127 imX2_readSum seX2_readSum gcl2.1 (Sm.k j7 s0.1) (Nat.le_of_ble_eq_true rfl) (Nat.zero_le _) (Nat.zero_le _) ((ih.2.2.2.2.2.2.1) d _ 0 0 _ M7 a0 x1 0 0 _ (by omega) (Re.sm j7 s0) H (fun v10 w10 M8 jj H => ?_))
          have j8 : Sm M M8 := (Sm.tr j7 jj)
          show Go X (d + (n + 1) + 3) mc ms kX2_readPlain Q 163 [(3, .int (12)), (0, .ref a0), (1, .int (x1)), (2, .int (x2))] [.int (v10)] M8 0 0
          refine g_if_ne 168 166 dX2_readPlain_163 rfl rfl (fun c8 => ?_) (fun c8 => ?_)
          · skip
            replace H := H.1 c8
            refine g_aload_n 1 169 dX2_readPlain_168 rfl rfl ?_
            refine g_getR 172 (a0 + 2) dX2_readPlain_169 rfl flX2_20 (Sm.k j8 s0.1) (Sm.r j8 s0.2.2.2.1) ?_
            refine g_iload_n 0 173 dX2_readPlain_172 rfl rfl ?_
            refine g_iconst (0) 174 dX2_readPlain_173 rfl rfl ?_
            refine g_callV (mc1 := 0) (ms1 := 0) (b := (a0 + 2)) (rest := []) (av := [.int (12), .int (0)]) kX6_put 177 dX2_readPlain_174 rfl rfl mbX2_124 imX6_put seX6_put gcl6.1 (Sm.k j8 s0.2.2.2.2.1.1) (Nat.le_of_ble_eq_true rfl) (Nat.zero_le _) (Nat.zero_le _) (uX6_put (N := N) (K := 0) (Tx.sm j8 s0.2.2.2.2.1) H (fun v11 M9 jj H => ?_))
            have j9 : Sm M M9 := Sm.tr j8 jj
            show Go X (d + (n + 1) + 3) mc ms kX2_readPlain Q 177 [(3, .int (12)), (0, .ref a0), (1, .int (x1)), (2, .int (x2))] [.int (v11)] M9 0 0
            refine g_pop 178 dX2_readPlain_177 rfl rfl ?_
            refine g_iload_n 3 179 dX2_readPlain_178 rfl rfl ?_
            refine g_if_eq 192 182 dX2_readPlain_179 rfl rfl (fun c9 => ?_) (fun c9 => ?_)
            · skip
              replace H := H.1 c9
              refine g_iconst (1) 193 dX2_readPlain_192 rfl rfl ?_
              exact g_zret dX2_readPlain_193 rfl (by decide) (Nat.zero_le _) (Nat.zero_le _) (hR _ _ _ j9 H)
            · skip
              replace H := H.2 c9
              refine g_aload_n 1 183 dX2_readPlain_182 rfl rfl ?_
              refine g_getR 186 (a0 + 2) dX2_readPlain_183 rfl flX2_20 (Sm.k j9 s0.1) (Sm.r j9 s0.2.2.2.1) ?_
              refine g_iconst (3) 187 dX2_readPlain_186 rfl rfl ?_
              refine g_iconst (0) 188 dX2_readPlain_187 rfl rfl ?_
              refine g_callV (mc1 := 0) (ms1 := 0) (b := (a0 + 2)) (rest := []) (av := [.int (3), .int (0)]) kX6_put 191 dX2_readPlain_188 rfl rfl mbX2_124 imX6_put seX6_put gcl6.1 (Sm.k j9 s0.2.2.2.2.1.1) (Nat.le_of_ble_eq_true rfl) (Nat.zero_le _) (Nat.zero_le _) (uX6_put (N := N) (K := 0) (Tx.sm j9 s0.2.2.2.2.1) H (fun v12 M10 jj H => ?_))
              have j10 : Sm M M10 := Sm.tr j9 jj
              show Go X (d + (n + 1) + 3) mc ms kX2_readPlain Q 191 [(3, .int (12)), (0, .ref a0), (1, .int (x1)), (2, .int (x2))] [.int (v12)] M10 0 0
              refine g_pop 192 dX2_readPlain_191 rfl rfl ?_
              refine g_iconst (1) 193 dX2_readPlain_192 rfl rfl ?_
              exact g_zret dX2_readPlain_193 rfl (by decide) (Nat.zero_le _) (Nat.zero_le _) (hR _ _ _ j10 H)
          · skip
            replace H := H.2 c8
            refine g_iconst (0) 167 dX2_readPlain_166 rfl rfl ?_
            exact g_zret dX2_readPlain_167 rfl (by decide) (Nat.zero_le _) (Nat.zero_le _) (hR _ _ _ j8 H)
      · skip
        replace H := H.2 c3
        refine g_bipush (11) 111 dX2_readPlain_109 rfl rfl ?_
        refine g_goto 143 dX2_readPlain_111 rfl ?_
        refine g_istore_n 144 [(3, .int (11)), (0, .ref a0), (1, .int (x1)), (2, .int (x2))] dX2_readPlain_143 rfl (Nat.le_of_ble_eq_true rfl) rfl ?_
        refine g_iload_n 0 145 dX2_readPlain_144 rfl rfl ?_
        refine g_iconst ((-1)) 146 dX2_readPlain_145 rfl rfl ?_
        refine g_icmp_ne 154 149 dX2_readPlain_146 rfl rfl (fun _ => ?_) (fun q => absurd q (by decide))
        refine g_aload_n 1 155 dX2_readPlain_154 rfl rfl ?_
        refine g_callV (mc1 := 0) (ms1 := 0) (b := a0) (rest := []) (av := []) kX2_pass 158 dX2_readPlain_155 rfl rfl mbX2_111 imX2_pass seX2_pass gcl2.1 (Sm.k j1 s0.1) (Nat.le_of_ble_eq_true rfl) (Nat.zero_le _) (Nat.zero_le _) (uX2_pass (N := N) (K := 0) (Re.sm j1 s0) H (fun M11 jj H => ?_))
        have j11 : Sm M M11 := Sm.tr j1 jj
        show Go X (d + (n + 1) + 3) mc ms kX2_readPlain Q 158 [(3, .int (11)), (0, .ref a0), (1, .int (x1)), (2, .int (x2))] [] M11 0 0
        refine g_aload_n 1 159 dX2_readPlain_158 rfl rfl ?_
        refine g_iload_n 2 160 dX2_readPlain_159 rfl rfl ?_
        refine g_callV (mc1 := 0) (ms1 := 0) (b := a0) (rest := []) (av := [.int (x1)]) kX2_readSum 163 dX2_readPlain_160 rfl rfl mbX2_127 imX2_readSum seX2_readSum gcl2.1 (Sm.k j11 s0.1) (Nat.le_of_ble_eq_true rfl) (Nat.zero_le _) (Nat.zero_le _) ((ih.2.2.2.2.2.2.1) d _ 0 0 _ M11 a0 x1 0 0 _ (by omega) (Re.sm j11 s0) H (fun v13 w13 M12 jj H => ?_))
        have j12 : Sm M M12 := (Sm.tr j11 jj)
        show Go X (d + (n + 1) + 3) mc ms kX2_readPlain Q 163 [(3, .int (11)), (0, .ref a0), (1, .int (x1)), (2, .int (x2))] [.int (v13)] M12 0 0
        refine g_if_ne 168 166 dX2_readPlain_163 rfl rfl (fun c10 => ?_) (fun c10 => ?_)
        · skip
          replace H := H.1 c10
          refine g_aload_n 1 169 dX2_readPlain_168 rfl rfl ?_
          refine g_getR 172 (a0 + 2) dX2_readPlain_169 rfl flX2_20 (Sm.k j12 s0.1) (Sm.r j12 s0.2.2.2.1) ?_
          refine g_iload_n 0 173 dX2_readPlain_172 rfl rfl ?_
          refine g_iconst (0) 174 dX2_readPlain_173 rfl rfl ?_
          refine g_callV (mc1 := 0) (ms1 := 0) (b := (a0 + 2)) (rest := []) (av := [.int (11), .int (0)]) kX6_put 177 dX2_readPlain_174 rfl rfl mbX2_124 imX6_put seX6_put gcl6.1 (Sm.k j12 s0.2.2.2.2.1.1) (Nat.le_of_ble_eq_true rfl) (Nat.zero_le _) (Nat.zero_le _) (uX6_put (N := N) (K := 0) (Tx.sm j12 s0.2.2.2.2.1) H (fun v14 M13 jj H => ?_))
          have j13 : Sm M M13 := Sm.tr j12 jj
          show Go X (d + (n + 1) + 3) mc ms kX2_readPlain Q 177 [(3, .int (11)), (0, .ref a0), (1, .int (x1)), (2, .int (x2))] [.int (v14)] M13 0 0
          refine g_pop 178 dX2_readPlain_177 rfl rfl ?_
          refine g_iload_n 3 179 dX2_readPlain_178 rfl rfl ?_
          refine g_if_eq 192 182 dX2_readPlain_179 rfl rfl (fun c11 => ?_) (fun c11 => ?_)
          · skip
            replace H := H.1 c11
            refine g_iconst (1) 193 dX2_readPlain_192 rfl rfl ?_
            exact g_zret dX2_readPlain_193 rfl (by decide) (Nat.zero_le _) (Nat.zero_le _) (hR _ _ _ j13 H)
          · skip
            replace H := H.2 c11
            refine g_aload_n 1 183 dX2_readPlain_182 rfl rfl ?_
            refine g_getR 186 (a0 + 2) dX2_readPlain_183 rfl flX2_20 (Sm.k j13 s0.1) (Sm.r j13 s0.2.2.2.1) ?_
            refine g_iconst (3) 187 dX2_readPlain_186 rfl rfl ?_
            refine g_iconst (0) 188 dX2_readPlain_187 rfl rfl ?_
            refine g_callV (mc1 := 0) (ms1 := 0) (b := (a0 + 2)) (rest := []) (av := [.int (3), .int (0)]) kX6_put 191 dX2_readPlain_188 rfl rfl mbX2_124 imX6_put seX6_put gcl6.1 (Sm.k j13 s0.2.2.2.2.1.1) (Nat.le_of_ble_eq_true rfl) (Nat.zero_le _) (Nat.zero_le _) (uX6_put (N := N) (K := 0) (Tx.sm j13 s0.2.2.2.2.1) H (fun v15 M14 jj H => ?_))
            have j14 : Sm M M14 := Sm.tr j13 jj
            show Go X (d + (n + 1) + 3) mc ms kX2_readPlain Q 191 [(3, .int (11)), (0, .ref a0), (1, .int (x1)), (2, .int (x2))] [.int (v15)] M14 0 0
            refine g_pop 192 dX2_readPlain_191 rfl rfl ?_
            refine g_iconst (1) 193 dX2_readPlain_192 rfl rfl ?_
            exact g_zret dX2_readPlain_193 rfl (by decide) (Nat.zero_le _) (Nat.zero_le _) (hR _ _ _ j14 H)
        · skip
          replace H := H.2 c10
          refine g_iconst (0) 167 dX2_readPlain_166 rfl rfl ?_
          exact g_zret dX2_readPlain_167 rfl (by decide) (Nat.zero_le _) (Nat.zero_le _) (hR _ _ _ j12 H)
    · skip
      replace H := H.2 c2
      refine g_iconst (0) 99 dX2_readPlain_98 rfl rfl ?_
      exact g_zret dX2_readPlain_99 rfl (by decide) (Nat.zero_le _) (Nat.zero_le _) (hR _ _ _ j1 H)
  · skip
    replace H := H.2 c1
    refine g_iload_n 1 55 dX2_readPlain_54 rfl rfl ?_
    refine g_bipush (8) 57 dX2_readPlain_55 rfl rfl ?_
    refine g_icmp_lt 65 60 dX2_readPlain_57 rfl rfl (fun c12 => ?_) (fun c12 => ?_)
    · skip
      replace H := H.1 c12
      refine g_aload_n 0 66 dX2_readPlain_65 rfl rfl ?_
      refine g_callV (mc1 := 0) (ms1 := 0) (b := a0) (rest := []) (av := []) kX2_pass 69 dX2_readPlain_66 rfl rfl mbX2_111 imX2_pass seX2_pass gcl2.1 s0.1 (Nat.le_of_ble_eq_true rfl) (Nat.zero_le _) (Nat.zero_le _) (uX2_pass (N := N) (K := 0) s0 H (fun M15 jj H => ?_))
      have j15 : Sm M M15 := jj
      show Go X (d + (n + 1) + 3) mc ms kX2_readPlain Q 69 [(0, .ref a0), (1, .int (x1)), (2, .int (x2))] [] M15 0 0
      refine g_aload_n 0 70 dX2_readPlain_69 rfl rfl ?_
      refine g_iload_n 1 71 dX2_readPlain_70 rfl rfl ?_
      refine g_iconst (1) 72 dX2_readPlain_71 rfl rfl ?_
      refine g_iadd 73 dX2_readPlain_72 rfl ?_
      refine g_callV (mc1 := 0) (ms1 := 0) (b := a0) (rest := []) (av := [.int ((x1 + 1))]) kX2_readTest 76 dX2_readPlain_73 rfl rfl mbX2_136 imX2_readTest seX2_readTest gcl2.1 (Sm.k j15 s0.1) (Nat.le_of_ble_eq_true rfl) (Nat.zero_le _) (Nat.zero_le _) ((ih.1) d _ 0 0 _ M15 a0 (x1 + 1) 0 0 _ (by omega) (Re.sm j15 s0) H (fun v16 w16 M16 jj H => ?_))
      have j16 : Sm M M16 := (Sm.tr j15 jj)
      show Go X (d + (n + 1) + 3) mc ms kX2_readPlain Q 76 [(0, .ref a0), (1, .int (x1)), (2, .int (x2))] [.int (v16)] M16 0 0
      refine g_if_eq 88 79 dX2_readPlain_76 rfl rfl (fun c13 => ?_) (fun c13 => ?_)
      · skip
        replace H := H.1 c13
        refine g_iconst (0) 89 dX2_readPlain_88 rfl rfl ?_
        exact g_zret dX2_readPlain_89 rfl (by decide) (Nat.zero_le _) (Nat.zero_le _) (hR _ _ _ j16 H)
      · skip
        replace H := H.2 c13
        refine g_aload_n 0 80 dX2_readPlain_79 rfl rfl ?_
        refine g_bipush (41) 82 dX2_readPlain_80 rfl rfl ?_
        refine g_callV (mc1 := 0) (ms1 := 0) (b := a0) (rest := []) (av := [.int (41)]) kX2_passMark 85 dX2_readPlain_82 rfl rfl mbX2_70 imX2_passMark seX2_passMark gcl2.1 (Sm.k j16 s0.1) (Nat.le_of_ble_eq_true rfl) (Nat.zero_le _) (Nat.zero_le _) (uX2_passMark (N := N) (K := 0) (Re.sm j16 s0) H (fun v17 M17 jj H => ?_))
        have j17 : Sm M M17 := Sm.tr j16 jj
        show Go X (d + (n + 1) + 3) mc ms kX2_readPlain Q 85 [(0, .ref a0), (1, .int (x1)), (2, .int (x2))] [.int (v17)] M17 0 0
        refine g_if_ne 178 88 dX2_readPlain_85 rfl rfl (fun c14 => ?_) (fun c14 => ?_)
        · skip
          replace H := H.1 c14
          refine g_iload_n 2 179 dX2_readPlain_178 rfl rfl ?_
          refine g_if_eq 192 182 dX2_readPlain_179 rfl rfl (fun c15 => ?_) (fun c15 => ?_)
          · skip
            replace H := H.1 c15
            refine g_iconst (1) 193 dX2_readPlain_192 rfl rfl ?_
            exact g_zret dX2_readPlain_193 rfl (by decide) (Nat.zero_le _) (Nat.zero_le _) (hR _ _ _ j17 H)
          · skip
            replace H := H.2 c15
            refine g_aload_n 0 183 dX2_readPlain_182 rfl rfl ?_
            refine g_getR 186 (a0 + 2) dX2_readPlain_183 rfl flX2_20 (Sm.k j17 s0.1) (Sm.r j17 s0.2.2.2.1) ?_
            refine g_iconst (3) 187 dX2_readPlain_186 rfl rfl ?_
            refine g_iconst (0) 188 dX2_readPlain_187 rfl rfl ?_
            refine g_callV (mc1 := 0) (ms1 := 0) (b := (a0 + 2)) (rest := []) (av := [.int (3), .int (0)]) kX6_put 191 dX2_readPlain_188 rfl rfl mbX2_124 imX6_put seX6_put gcl6.1 (Sm.k j17 s0.2.2.2.2.1.1) (Nat.le_of_ble_eq_true rfl) (Nat.zero_le _) (Nat.zero_le _) (uX6_put (N := N) (K := 0) (Tx.sm j17 s0.2.2.2.2.1) H (fun v18 M18 jj H => ?_))
            have j18 : Sm M M18 := Sm.tr j17 jj
            show Go X (d + (n + 1) + 3) mc ms kX2_readPlain Q 191 [(0, .ref a0), (1, .int (x1)), (2, .int (x2))] [.int (v18)] M18 0 0
            refine g_pop 192 dX2_readPlain_191 rfl rfl ?_
            refine g_iconst (1) 193 dX2_readPlain_192 rfl rfl ?_
            exact g_zret dX2_readPlain_193 rfl (by decide) (Nat.zero_le _) (Nat.zero_le _) (hR _ _ _ j18 H)
        · skip
          replace H := H.2 c14
          refine g_iconst (0) 89 dX2_readPlain_88 rfl rfl ?_
          exact g_zret dX2_readPlain_89 rfl (by decide) (Nat.zero_le _) (Nat.zero_le _) (hR _ _ _ j17 H)
    · skip
      replace H := H.2 c12
      refine g_aload_n 0 61 dX2_readPlain_60 rfl rfl ?_
      refine g_callV (mc1 := 0) (ms1 := 0) (b := a0) (rest := []) (av := []) kX2_fail 64 dX2_readPlain_61 rfl rfl mbX2_74 imX2_fail seX2_fail gcl2.1 s0.1 (Nat.le_of_ble_eq_true rfl) (Nat.zero_le _) (Nat.zero_le _) (uX2_fail (N := N) (K := 0) s0 H (fun v19 M19 jj H => ?_))
      have j19 : Sm M M19 := jj
      show Go X (d + (n + 1) + 3) mc ms kX2_readPlain Q 64 [(0, .ref a0), (1, .int (x1)), (2, .int (x2))] [.int (v19)] M19 0 0
      obtain ⟨b6, H⟩ := H
      exact g_zret dX2_readPlain_64 rfl b6 (Nat.zero_le _) (Nat.zero_le _) (hR _ _ _ j19 H)
set_option maxRecDepth 10000 in
theorem uzX2_readTest_0 {X : gX} {N : Nat} {n : Nat} (ih : UgCP X N n) : UX2_readTest_0 X N (n + 1) := by
  intro d D mc ms Q M a0 x1 x2 x3 R hD s0 H hR
  subst hD
  rw [qgCP, if_pos (show (0 : Nat) = 0 from rfl)] at H
  unfold pX2_readTest_0 at H
  refine g_meth rfl rfl (Nat.le_of_ble_eq_true rfl) rfl ?_
  refine g_aload_n 0 1 dX2_readTest_0 rfl rfl ?_
  refine g_iload_n 1 2 dX2_readTest_1 rfl rfl ?_
  refine g_callV (mc1 := 0) (ms1 := 0) (b := a0) (rest := []) (av := [.int (x1)]) kX2_readBoth 5 dX2_readTest_2 rfl rfl mbX2_142 imX2_readBoth seX2_readBoth gcl2.1 s0.1 (Nat.le_of_ble_eq_true rfl) (Nat.zero_le _) (Nat.zero_le _) ((ih.2.2.1) d _ 0 0 _ M a0 x1 0 0 _ (by omega) s0 H (fun v1 w1 M1 jj H => ?_))
  have j1 : Sm M M1 := jj
  show Go X (d + (n + 1) + 3) mc ms kX2_readTest Q 5 [(0, .ref a0), (1, .int (x1))] [.int (v1)] M1 0 0
  refine g_if_ne 10 8 dX2_readTest_5 rfl rfl (fun c1 => ?_) (fun c1 => ?_)
  · skip
    replace H := H.1 c1
    refine g_iconst (0) 11 dX2_readTest_10 rfl rfl ?_
    refine g_istore_n 12 [(2, .int (0)), (0, .ref a0), (1, .int (x1))] dX2_readTest_11 rfl (Nat.le_of_ble_eq_true rfl) rfl ?_
    exact g_sub [1, 2, 0] _ rfl ((ih.2.1) (d + 1) _ _ _ _ M1 a0 x1 0 0 _ (by omega) (Re.sm j1 s0) H (fun v w M1 j r => hR v w M1 (Sm.tr j1 j) r))
  · skip
    replace H := H.2 c1
    refine g_iconst (0) 9 dX2_readTest_8 rfl rfl ?_
    exact g_zret dX2_readTest_9 rfl (by decide) (Nat.zero_le _) (Nat.zero_le _) (hR _ _ _ j1 H)
set_option maxRecDepth 10000 in
theorem uzX2_readTest_12 {X : gX} {N : Nat} {n : Nat} (ih : UgCP X N n) : UX2_readTest_12 X N (n + 1) := by
  intro d D mc ms Q M a0 x1 x2 x3 R hD s0 H hR
  subst hD
  rw [qgCP, if_neg (show ¬ (1 : Nat) = 0 by decide), if_pos (show (1 : Nat) = 1 from rfl)] at H
  unfold pX2_readTest_12 at H
  refine g_iload_n 2 13 dX2_readTest_12 rfl rfl ?_
  refine g_sipush (400) 16 dX2_readTest_13 rfl rfl ?_
  refine g_icmp_ge 71 19 dX2_readTest_16 rfl rfl (fun c1 => ?_) (fun c1 => ?_)
  · skip
    replace H := H.1 c1
    refine g_iconst (1) 72 dX2_readTest_71 rfl rfl ?_
    exact g_zret dX2_readTest_72 rfl (by decide) (Nat.zero_le _) (Nat.zero_le _) (hR _ _ _ Sm.rf H)
  · skip
    replace H := H.2 c1
    refine g_aload_n 0 20 dX2_readTest_19 rfl rfl ?_
    refine g_getR 23 (a0 + 11) dX2_readTest_20 rfl flX2_35 s0.1 s0.2.2.2.2.2.2.2.2.2.1 ?_
    refine g_aload_n 0 24 dX2_readTest_23 rfl rfl ?_
    refine g_getI 27 dX2_readTest_24 rfl flX2_50 s0.1 ?_
    obtain ⟨b1, H⟩ := H
    refine h_iaload 28 ((g_mi M a0 10)).toNatClampNeg dX2_readTest_27 rfl rfl s0.2.2.2.2.2.2.2.2.2.2.1 b1 ?_
    refine g_bipush (19) 30 dX2_readTest_28 rfl rfl ?_
    refine g_icmp_ne 71 33 dX2_readTest_30 rfl rfl (fun c2 => ?_) (fun c2 => ?_)
    · skip
      replace H := H.1 c2
      refine g_iconst (1) 72 dX2_readTest_71 rfl rfl ?_
      exact g_zret dX2_readTest_72 rfl (by decide) (Nat.zero_le _) (Nat.zero_le _) (hR _ _ _ Sm.rf H)
    · skip
      replace H := H.2 c2
      refine g_aload_n 0 34 dX2_readTest_33 rfl rfl ?_
      refine g_callV (mc1 := 0) (ms1 := 0) (b := a0) (rest := []) (av := []) kX2_pass 37 dX2_readTest_34 rfl rfl mbX2_111 imX2_pass seX2_pass gcl2.1 s0.1 (Nat.le_of_ble_eq_true rfl) (Nat.zero_le _) (Nat.zero_le _) (uX2_pass (N := N) (K := 0) s0 H (fun M1 jj H => ?_))
      have j1 : Sm M M1 := jj
      show Go X (d + (n + 1) + 3) mc ms kX2_readTest Q 37 [(0, .ref a0), (1, .int (x1)), (2, .int (x2))] [] M1 0 0
      refine g_aload_n 0 38 dX2_readTest_37 rfl rfl ?_
      refine g_getR 41 (a0 + 2) dX2_readTest_38 rfl flX2_20 (Sm.k j1 s0.1) (Sm.r j1 s0.2.2.2.1) ?_
      refine g_iconst (5) 42 dX2_readTest_41 rfl rfl ?_
      refine g_iconst (0) 43 dX2_readTest_42 rfl rfl ?_
      refine g_callV (mc1 := 0) (ms1 := 0) (b := (a0 + 2)) (rest := []) (av := [.int (5), .int (0)]) kX6_put 46 dX2_readTest_43 rfl rfl mbX2_124 imX6_put seX6_put gcl6.1 (Sm.k j1 s0.2.2.2.2.1.1) (Nat.le_of_ble_eq_true rfl) (Nat.zero_le _) (Nat.zero_le _) (uX6_put (N := N) (K := 0) (Tx.sm j1 s0.2.2.2.2.1) H (fun v1 M2 jj H => ?_))
      have j2 : Sm M M2 := Sm.tr j1 jj
      show Go X (d + (n + 1) + 3) mc ms kX2_readTest Q 46 [(0, .ref a0), (1, .int (x1)), (2, .int (x2))] [.int (v1)] M2 0 0
      refine g_istore_n 47 [(3, .int (v1)), (0, .ref a0), (1, .int (x1)), (2, .int (x2))] dX2_readTest_46 rfl (Nat.le_of_ble_eq_true rfl) rfl ?_
      refine g_aload_n 1 48 dX2_readTest_47 rfl rfl ?_
      refine g_iload_n 2 49 dX2_readTest_48 rfl rfl ?_
      refine g_callV (mc1 := 0) (ms1 := 0) (b := a0) (rest := []) (av := [.int (x1)]) kX2_readBoth 52 dX2_readTest_49 rfl rfl mbX2_142 imX2_readBoth seX2_readBoth gcl2.1 (Sm.k j2 s0.1) (Nat.le_of_ble_eq_true rfl) (Nat.zero_le _) (Nat.zero_le _) ((ih.2.2.1) d _ 0 0 _ M2 a0 x1 0 0 _ (by omega) (Re.sm j2 s0) H (fun v2 w2 M3 jj H => ?_))
      have j3 : Sm M M3 := (Sm.tr j2 jj)
      show Go X (d + (n + 1) + 3) mc ms kX2_readTest Q 52 [(3, .int (v1)), (0, .ref a0), (1, .int (x1)), (2, .int (x2))] [.int (v2)] M3 0 0
      refine g_if_ne 57 55 dX2_readTest_52 rfl rfl (fun c3 => ?_) (fun c3 => ?_)
      · skip
        replace H := H.1 c3
        refine g_aload_n 1 58 dX2_readTest_57 rfl rfl ?_
        refine g_getR 61 (a0 + 2) dX2_readTest_58 rfl flX2_20 (Sm.k j3 s0.1) (Sm.r j3 s0.2.2.2.1) ?_
        refine g_iload_n 0 62 dX2_readTest_61 rfl rfl ?_
        refine g_callV (mc1 := 0) (ms1 := 0) (b := (a0 + 2)) (rest := []) (av := [.int (v1)]) kX6_jumpToHere 65 dX2_readTest_62 rfl rfl mbX2_145 imX6_jumpToHere seX6_jumpToHere gcl6.1 (Sm.k j3 s0.2.2.2.2.1.1) (Nat.le_of_ble_eq_true rfl) (Nat.zero_le _) (Nat.zero_le _) (uX6_jumpToHere (N := N) (K := 0) (Tx.sm j3 s0.2.2.2.2.1) H (fun M4 jj H => ?_))
        have j4 : Sm M M4 := Sm.tr j3 jj
        show Go X (d + (n + 1) + 3) mc ms kX2_readTest Q 65 [(3, .int (v1)), (0, .ref a0), (1, .int (x1)), (2, .int (x2))] [] M4 0 0
        refine g_iinc _ 3 68 [(2, .int ((x2 + 1))), (3, .int (v1)), (0, .ref a0), (1, .int (x1))] dX2_readTest_65 rfl rfl rfl (Nat.le_of_ble_eq_true rfl) rfl ?_
        refine g_goto 12 dX2_readTest_68 rfl ?_
        exact g_sub [2, 3, 0] _ rfl ((ih.2.1) (d + 1) _ _ _ _ M4 a0 x1 (x2 + 1) 0 _ (by omega) (Re.sm j4 s0) H (fun v w M1 j r => hR v w M1 (Sm.tr j4 j) r))
      · skip
        replace H := H.2 c3
        refine g_iconst (0) 56 dX2_readTest_55 rfl rfl ?_
        exact g_zret dX2_readTest_56 rfl (by decide) (Nat.zero_le _) (Nat.zero_le _) (hR _ _ _ j3 H)
set_option maxRecDepth 10000 in
theorem uzX2_readBoth_0 {X : gX} {N : Nat} {n : Nat} (ih : UgCP X N n) : UX2_readBoth_0 X N (n + 1) := by
  intro d D mc ms Q M a0 x1 x2 x3 R hD s0 H hR
  subst hD
  rw [qgCP, if_neg (show ¬ (2 : Nat) = 0 by decide), if_neg (show ¬ (2 : Nat) = 1 by decide), if_pos (show (2 : Nat) = 2 from rfl)] at H
  unfold pX2_readBoth_0 at H
  refine g_meth rfl rfl (Nat.le_of_ble_eq_true rfl) rfl ?_
  refine g_aload_n 0 1 dX2_readBoth_0 rfl rfl ?_
  refine g_iload_n 1 2 dX2_readBoth_1 rfl rfl ?_
  refine g_callV (mc1 := 0) (ms1 := 0) (b := a0) (rest := []) (av := [.int (x1)]) kX2_readPlain 5 dX2_readBoth_2 rfl rfl mbX2_149 imX2_readPlain seX2_readPlain gcl2.1 s0.1 (Nat.le_of_ble_eq_true rfl) (Nat.zero_le _) (Nat.zero_le _) ((ih.2.2.2.2.1) d _ 0 0 _ M a0 x1 0 0 _ (by omega) s0 H (fun v1 w1 M1 jj H => ?_))
  have j1 : Sm M M1 := jj
  show Go X (d + (n + 1) + 3) mc ms kX2_readBoth Q 5 [(0, .ref a0), (1, .int (x1))] [.int (v1)] M1 0 0
  refine g_if_ne 10 8 dX2_readBoth_5 rfl rfl (fun c1 => ?_) (fun c1 => ?_)
  · skip
    replace H := H.1 c1
    refine g_iconst (0) 11 dX2_readBoth_10 rfl rfl ?_
    refine g_istore_n 12 [(2, .int (0)), (0, .ref a0), (1, .int (x1))] dX2_readBoth_11 rfl (Nat.le_of_ble_eq_true rfl) rfl ?_
    exact g_sub [1, 2, 0] _ rfl ((ih.2.2.2.1) (d + 1) _ _ _ _ M1 a0 x1 0 0 _ (by omega) (Re.sm j1 s0) H (fun v w M1 j r => hR v w M1 (Sm.tr j1 j) r))
  · skip
    replace H := H.2 c1
    refine g_iconst (0) 9 dX2_readBoth_8 rfl rfl ?_
    exact g_zret dX2_readBoth_9 rfl (by decide) (Nat.zero_le _) (Nat.zero_le _) (hR _ _ _ j1 H)
set_option maxRecDepth 10000 in
theorem uzX2_readBoth_12 {X : gX} {N : Nat} {n : Nat} (ih : UgCP X N n) : UX2_readBoth_12 X N (n + 1) := by
  intro d D mc ms Q M a0 x1 x2 x3 R hD s0 H hR
  subst hD
  rw [qgCP, if_neg (show ¬ (3 : Nat) = 0 by decide), if_neg (show ¬ (3 : Nat) = 1 by decide), if_neg (show ¬ (3 : Nat) = 2 by decide), if_pos (show (3 : Nat) = 3 from rfl)] at H
  unfold pX2_readBoth_12 at H
  refine g_iload_n 2 13 dX2_readBoth_12 rfl rfl ?_
  refine g_sipush (400) 16 dX2_readBoth_13 rfl rfl ?_
  refine g_icmp_ge 71 19 dX2_readBoth_16 rfl rfl (fun c1 => ?_) (fun c1 => ?_)
  · skip
    replace H := H.1 c1
    refine g_iconst (1) 72 dX2_readBoth_71 rfl rfl ?_
    exact g_zret dX2_readBoth_72 rfl (by decide) (Nat.zero_le _) (Nat.zero_le _) (hR _ _ _ Sm.rf H)
  · skip
    replace H := H.2 c1
    refine g_aload_n 0 20 dX2_readBoth_19 rfl rfl ?_
    refine g_getR 23 (a0 + 11) dX2_readBoth_20 rfl flX2_35 s0.1 s0.2.2.2.2.2.2.2.2.2.1 ?_
    refine g_aload_n 0 24 dX2_readBoth_23 rfl rfl ?_
    refine g_getI 27 dX2_readBoth_24 rfl flX2_50 s0.1 ?_
    obtain ⟨b1, H⟩ := H
    refine h_iaload 28 ((g_mi M a0 10)).toNatClampNeg dX2_readBoth_27 rfl rfl s0.2.2.2.2.2.2.2.2.2.2.1 b1 ?_
    refine g_bipush (20) 30 dX2_readBoth_28 rfl rfl ?_
    refine g_icmp_ne 71 33 dX2_readBoth_30 rfl rfl (fun c2 => ?_) (fun c2 => ?_)
    · skip
      replace H := H.1 c2
      refine g_iconst (1) 72 dX2_readBoth_71 rfl rfl ?_
      exact g_zret dX2_readBoth_72 rfl (by decide) (Nat.zero_le _) (Nat.zero_le _) (hR _ _ _ Sm.rf H)
    · skip
      replace H := H.2 c2
      refine g_aload_n 0 34 dX2_readBoth_33 rfl rfl ?_
      refine g_callV (mc1 := 0) (ms1 := 0) (b := a0) (rest := []) (av := []) kX2_pass 37 dX2_readBoth_34 rfl rfl mbX2_111 imX2_pass seX2_pass gcl2.1 s0.1 (Nat.le_of_ble_eq_true rfl) (Nat.zero_le _) (Nat.zero_le _) (uX2_pass (N := N) (K := 0) s0 H (fun M1 jj H => ?_))
      have j1 : Sm M M1 := jj
      show Go X (d + (n + 1) + 3) mc ms kX2_readBoth Q 37 [(0, .ref a0), (1, .int (x1)), (2, .int (x2))] [] M1 0 0
      refine g_aload_n 0 38 dX2_readBoth_37 rfl rfl ?_
      refine g_getR 41 (a0 + 2) dX2_readBoth_38 rfl flX2_20 (Sm.k j1 s0.1) (Sm.r j1 s0.2.2.2.1) ?_
      refine g_iconst (4) 42 dX2_readBoth_41 rfl rfl ?_
      refine g_iconst (0) 43 dX2_readBoth_42 rfl rfl ?_
      refine g_callV (mc1 := 0) (ms1 := 0) (b := (a0 + 2)) (rest := []) (av := [.int (4), .int (0)]) kX6_put 46 dX2_readBoth_43 rfl rfl mbX2_124 imX6_put seX6_put gcl6.1 (Sm.k j1 s0.2.2.2.2.1.1) (Nat.le_of_ble_eq_true rfl) (Nat.zero_le _) (Nat.zero_le _) (uX6_put (N := N) (K := 0) (Tx.sm j1 s0.2.2.2.2.1) H (fun v1 M2 jj H => ?_))
      have j2 : Sm M M2 := Sm.tr j1 jj
      show Go X (d + (n + 1) + 3) mc ms kX2_readBoth Q 46 [(0, .ref a0), (1, .int (x1)), (2, .int (x2))] [.int (v1)] M2 0 0
      refine g_istore_n 47 [(3, .int (v1)), (0, .ref a0), (1, .int (x1)), (2, .int (x2))] dX2_readBoth_46 rfl (Nat.le_of_ble_eq_true rfl) rfl ?_
      refine g_aload_n 1 48 dX2_readBoth_47 rfl rfl ?_
      refine g_iload_n 2 49 dX2_readBoth_48 rfl rfl ?_
      refine g_callV (mc1 := 0) (ms1 := 0) (b := a0) (rest := []) (av := [.int (x1)]) kX2_readPlain 52 dX2_readBoth_49 rfl rfl mbX2_149 imX2_readPlain seX2_readPlain gcl2.1 (Sm.k j2 s0.1) (Nat.le_of_ble_eq_true rfl) (Nat.zero_le _) (Nat.zero_le _) ((ih.2.2.2.2.1) d _ 0 0 _ M2 a0 x1 0 0 _ (by omega) (Re.sm j2 s0) H (fun v2 w2 M3 jj H => ?_))
      have j3 : Sm M M3 := (Sm.tr j2 jj)
      show Go X (d + (n + 1) + 3) mc ms kX2_readBoth Q 52 [(3, .int (v1)), (0, .ref a0), (1, .int (x1)), (2, .int (x2))] [.int (v2)] M3 0 0
      refine g_if_ne 57 55 dX2_readBoth_52 rfl rfl (fun c3 => ?_) (fun c3 => ?_)
      · skip
        replace H := H.1 c3
        refine g_aload_n 1 58 dX2_readBoth_57 rfl rfl ?_
        refine g_getR 61 (a0 + 2) dX2_readBoth_58 rfl flX2_20 (Sm.k j3 s0.1) (Sm.r j3 s0.2.2.2.1) ?_
        refine g_iload_n 0 62 dX2_readBoth_61 rfl rfl ?_
        refine g_callV (mc1 := 0) (ms1 := 0) (b := (a0 + 2)) (rest := []) (av := [.int (v1)]) kX6_jumpToHere 65 dX2_readBoth_62 rfl rfl mbX2_145 imX6_jumpToHere seX6_jumpToHere gcl6.1 (Sm.k j3 s0.2.2.2.2.1.1) (Nat.le_of_ble_eq_true rfl) (Nat.zero_le _) (Nat.zero_le _) (uX6_jumpToHere (N := N) (K := 0) (Tx.sm j3 s0.2.2.2.2.1) H (fun M4 jj H => ?_))
        have j4 : Sm M M4 := Sm.tr j3 jj
        show Go X (d + (n + 1) + 3) mc ms kX2_readBoth Q 65 [(3, .int (v1)), (0, .ref a0), (1, .int (x1)), (2, .int (x2))] [] M4 0 0
        refine g_iinc _ 3 68 [(2, .int ((x2 + 1))), (3, .int (v1)), (0, .ref a0), (1, .int (x1))] dX2_readBoth_65 rfl rfl rfl (Nat.le_of_ble_eq_true rfl) rfl ?_
        refine g_goto 12 dX2_readBoth_68 rfl ?_
        exact g_sub [2, 3, 0] _ rfl ((ih.2.2.2.1) (d + 1) _ _ _ _ M4 a0 x1 (x2 + 1) 0 _ (by omega) (Re.sm j4 s0) H (fun v w M1 j r => hR v w M1 (Sm.tr j4 j) r))
      · skip
        replace H := H.2 c3
        refine g_iconst (0) 56 dX2_readBoth_55 rfl rfl ?_
        exact g_zret dX2_readBoth_56 rfl (by decide) (Nat.zero_le _) (Nat.zero_le _) (hR _ _ _ j3 H)
set_option maxRecDepth 10000 in
theorem uzX2_readPlain_0 {X : gX} {N : Nat} {n : Nat} (ih : UgCP X N n) : UX2_readPlain_0 X N (n + 1) := by
  intro d D mc ms Q M a0 x1 x2 x3 R hD s0 H hR
  subst hD
  rw [qgCP, if_neg (show ¬ (4 : Nat) = 0 by decide), if_neg (show ¬ (4 : Nat) = 1 by decide), if_neg (show ¬ (4 : Nat) = 2 by decide), if_neg (show ¬ (4 : Nat) = 3 by decide), if_pos (show (4 : Nat) = 4 from rfl)] at H
  unfold pX2_readPlain_0 at H
  refine g_meth rfl rfl (Nat.le_of_ble_eq_true rfl) rfl ?_
  refine g_iconst (0) 1 dX2_readPlain_0 rfl rfl ?_
  refine g_istore_n 2 [(2, .int (0)), (0, .ref a0), (1, .int (x1))] dX2_readPlain_1 rfl (Nat.le_of_ble_eq_true rfl) rfl ?_
  refine g_iconst (0) 3 dX2_readPlain_2 rfl rfl ?_
  refine g_istore_n 4 [(3, .int (0)), (2, .int (0)), (0, .ref a0), (1, .int (x1))] dX2_readPlain_3 rfl (Nat.le_of_ble_eq_true rfl) rfl ?_
  exact g_sub [2, 3, 1, 0] _ rfl ((ih.2.2.2.2.2.1) (d + 1) _ _ _ _ M a0 x1 0 0 _ (by omega) s0 H (fun v w M1 j r => hR v w M1 j r))
set_option maxRecDepth 10000 in
theorem uzX2_readPlain_4 {X : gX} {N : Nat} {n : Nat} (ih : UgCP X N n) : UX2_readPlain_4 X N (n + 1) := by
  intro d D mc ms Q M a0 x1 x2 x3 R hD s0 H hR
  subst hD
  rw [qgCP, if_neg (show ¬ (5 : Nat) = 0 by decide), if_neg (show ¬ (5 : Nat) = 1 by decide), if_neg (show ¬ (5 : Nat) = 2 by decide), if_neg (show ¬ (5 : Nat) = 3 by decide), if_neg (show ¬ (5 : Nat) = 4 by decide), if_pos (show (5 : Nat) = 5 from rfl)] at H
  unfold pX2_readPlain_4 at H
  refine g_iload_n 3 5 dX2_readPlain_4 rfl rfl ?_
  refine g_sipush (400) 8 dX2_readPlain_5 rfl rfl ?_
  refine g_icmp_ge 45 11 dX2_readPlain_8 rfl rfl (fun c1 => ?_) (fun c1 => ?_)
  · skip
    replace H := H.1 c1
    exact g_sub [0, 1, 2] _ rfl (uxX2_readPlain_45 ih s0 H (fun v w M1 j r => hR v w M1 j r))
  · skip
    replace H := H.2 c1
    refine g_aload_n 0 12 dX2_readPlain_11 rfl rfl ?_
    refine g_getR 15 (a0 + 11) dX2_readPlain_12 rfl flX2_35 s0.1 s0.2.2.2.2.2.2.2.2.2.1 ?_
    refine g_aload_n 0 16 dX2_readPlain_15 rfl rfl ?_
    refine g_getI 19 dX2_readPlain_16 rfl flX2_50 s0.1 ?_
    obtain ⟨b1, H⟩ := H
    refine h_iaload 20 ((g_mi M a0 10)).toNatClampNeg dX2_readPlain_19 rfl rfl s0.2.2.2.2.2.2.2.2.2.2.1 b1 ?_
    refine g_bipush (21) 22 dX2_readPlain_20 rfl rfl ?_
    refine g_icmp_ne 45 25 dX2_readPlain_22 rfl rfl (fun c2 => ?_) (fun c2 => ?_)
    · skip
      replace H := H.1 c2
      exact g_sub [0, 1, 2] _ rfl (uxX2_readPlain_45 ih s0 H (fun v w M1 j r => hR v w M1 j r))
    · skip
      replace H := H.2 c2
      refine g_iload_n 2 26 dX2_readPlain_25 rfl rfl ?_
      refine g_if_ne 33 29 dX2_readPlain_26 rfl rfl (fun c3 => ?_) (fun c3 => ?_)
      · skip
        replace H := H.1 c3
        refine g_iconst (0) 34 dX2_readPlain_33 rfl rfl ?_
        refine g_istore_n 35 [(2, .int (0)), (0, .ref a0), (1, .int (x1)), (3, .int (x3))] dX2_readPlain_34 rfl (Nat.le_of_ble_eq_true rfl) rfl ?_
        refine g_aload_n 1 36 dX2_readPlain_35 rfl rfl ?_
        refine g_callV (mc1 := 0) (ms1 := 0) (b := a0) (rest := []) (av := []) kX2_pass 39 dX2_readPlain_36 rfl rfl mbX2_111 imX2_pass seX2_pass gcl2.1 s0.1 (Nat.le_of_ble_eq_true rfl) (Nat.zero_le _) (Nat.zero_le _) (uX2_pass (N := N) (K := 0) s0 H (fun M1 jj H => ?_))
        have j1 : Sm M M1 := jj
        show Go X (d + (n + 1) + 3) mc ms kX2_readPlain Q 39 [(2, .int (0)), (0, .ref a0), (1, .int (x1)), (3, .int (x3))] [] M1 0 0
        refine g_iinc _ 3 42 [(3, .int ((x3 + 1))), (2, .int (0)), (0, .ref a0), (1, .int (x1))] dX2_readPlain_39 rfl rfl rfl (Nat.le_of_ble_eq_true rfl) rfl ?_
        refine g_goto 4 dX2_readPlain_42 rfl ?_
        exact g_sub [2, 3, 1, 0] _ rfl ((ih.2.2.2.2.2.1) (d + 1) _ _ _ _ M1 a0 x1 0 (x3 + 1) _ (by omega) (Re.sm j1 s0) H (fun v w M1 j r => hR v w M1 (Sm.tr j1 j) r))
      · skip
        replace H := H.2 c3
        refine g_iconst (1) 30 dX2_readPlain_29 rfl rfl ?_
        refine g_goto 34 dX2_readPlain_30 rfl ?_
        refine g_istore_n 35 [(2, .int (1)), (0, .ref a0), (1, .int (x1)), (3, .int (x3))] dX2_readPlain_34 rfl (Nat.le_of_ble_eq_true rfl) rfl ?_
        refine g_aload_n 1 36 dX2_readPlain_35 rfl rfl ?_
        refine g_callV (mc1 := 0) (ms1 := 0) (b := a0) (rest := []) (av := []) kX2_pass 39 dX2_readPlain_36 rfl rfl mbX2_111 imX2_pass seX2_pass gcl2.1 s0.1 (Nat.le_of_ble_eq_true rfl) (Nat.zero_le _) (Nat.zero_le _) (uX2_pass (N := N) (K := 0) s0 H (fun M2 jj H => ?_))
        have j2 : Sm M M2 := jj
        show Go X (d + (n + 1) + 3) mc ms kX2_readPlain Q 39 [(2, .int (1)), (0, .ref a0), (1, .int (x1)), (3, .int (x3))] [] M2 0 0
        refine g_iinc _ 3 42 [(3, .int ((x3 + 1))), (2, .int (1)), (0, .ref a0), (1, .int (x1))] dX2_readPlain_39 rfl rfl rfl (Nat.le_of_ble_eq_true rfl) rfl ?_
        refine g_goto 4 dX2_readPlain_42 rfl ?_
        exact g_sub [2, 3, 1, 0] _ rfl ((ih.2.2.2.2.2.1) (d + 1) _ _ _ _ M2 a0 x1 1 (x3 + 1) _ (by omega) (Re.sm j2 s0) H (fun v w M1 j r => hR v w M1 (Sm.tr j2 j) r))
set_option maxRecDepth 10000 in
theorem uzX2_readSum_0 {X : gX} {N : Nat} {n : Nat} (ih : UgCP X N n) : UX2_readSum_0 X N (n + 1) := by
  intro d D mc ms Q M a0 x1 x2 x3 R hD s0 H hR
  subst hD
  rw [qgCP, if_neg (show ¬ (6 : Nat) = 0 by decide), if_neg (show ¬ (6 : Nat) = 1 by decide), if_neg (show ¬ (6 : Nat) = 2 by decide), if_neg (show ¬ (6 : Nat) = 3 by decide), if_neg (show ¬ (6 : Nat) = 4 by decide), if_neg (show ¬ (6 : Nat) = 5 by decide), if_pos (show (6 : Nat) = 6 from rfl)] at H
  unfold pX2_readSum_0 at H
  refine g_meth rfl rfl (Nat.le_of_ble_eq_true rfl) rfl ?_
  refine g_aload_n 0 1 dX2_readSum_0 rfl rfl ?_
  refine g_iload_n 1 2 dX2_readSum_1 rfl rfl ?_
  refine g_callV (mc1 := 0) (ms1 := 0) (b := a0) (rest := []) (av := [.int (x1)]) kX2_readTerm 5 dX2_readSum_2 rfl rfl mbX2_155 imX2_readTerm seX2_readTerm gcl2.1 s0.1 (Nat.le_of_ble_eq_true rfl) (Nat.zero_le _) (Nat.zero_le _) ((ih.2.2.2.2.2.2.2.2.1) d _ 0 0 _ M a0 x1 0 0 _ (by omega) s0 H (fun v1 w1 M1 jj H => ?_))
  have j1 : Sm M M1 := jj
  show Go X (d + (n + 1) + 3) mc ms kX2_readSum Q 5 [(0, .ref a0), (1, .int (x1))] [.int (v1)] M1 0 0
  refine g_if_ne 10 8 dX2_readSum_5 rfl rfl (fun c1 => ?_) (fun c1 => ?_)
  · skip
    replace H := H.1 c1
    refine g_iconst (0) 11 dX2_readSum_10 rfl rfl ?_
    refine g_istore_n 12 [(2, .int (0)), (0, .ref a0), (1, .int (x1))] dX2_readSum_11 rfl (Nat.le_of_ble_eq_true rfl) rfl ?_
    exact g_sub [1, 2, 0] _ rfl ((ih.2.2.2.2.2.2.2.1) (d + 1) _ _ _ _ M1 a0 x1 0 0 _ (by omega) (Re.sm j1 s0) H (fun v w M1 j r => hR v w M1 (Sm.tr j1 j) r))
  · skip
    replace H := H.2 c1
    refine g_iconst (0) 9 dX2_readSum_8 rfl rfl ?_
    exact g_zret dX2_readSum_9 rfl (by decide) (Nat.zero_le _) (Nat.zero_le _) (hR _ _ _ j1 H)
set_option maxRecDepth 10000 in
theorem uzX2_readSum_12 {X : gX} {N : Nat} {n : Nat} (ih : UgCP X N n) : UX2_readSum_12 X N (n + 1) := by
  intro d D mc ms Q M a0 x1 x2 x3 R hD s0 H hR
  subst hD
  rw [qgCP, if_neg (show ¬ (7 : Nat) = 0 by decide), if_neg (show ¬ (7 : Nat) = 1 by decide), if_neg (show ¬ (7 : Nat) = 2 by decide), if_neg (show ¬ (7 : Nat) = 3 by decide), if_neg (show ¬ (7 : Nat) = 4 by decide), if_neg (show ¬ (7 : Nat) = 5 by decide), if_neg (show ¬ (7 : Nat) = 6 by decide), if_pos (show (7 : Nat) = 7 from rfl)] at H
  unfold pX2_readSum_12 at H
  refine g_iload_n 2 13 dX2_readSum_12 rfl rfl ?_
  refine g_sipush (400) 16 dX2_readSum_13 rfl rfl ?_
  refine g_icmp_ge 86 19 dX2_readSum_16 rfl rfl (fun c1 => ?_) (fun c1 => ?_)
  · skip
    replace H := H.1 c1
    refine g_iconst (1) 87 dX2_readSum_86 rfl rfl ?_
    exact g_zret dX2_readSum_87 rfl (by decide) (Nat.zero_le _) (Nat.zero_le _) (hR _ _ _ Sm.rf H)
  · skip
    replace H := H.2 c1
    refine g_aload_n 0 20 dX2_readSum_19 rfl rfl ?_
    refine g_bipush (43) 22 dX2_readSum_20 rfl rfl ?_
    obtain ⟨b1, H⟩ := H
    refine g_callV (mc1 := 0) (ms1 := 0) (b := a0) (rest := []) (av := [.int (43)]) kX2_isMark 25 dX2_readSum_22 rfl rfl mbX2_152 imX2_isMark seX2_isMark gcl2.1 s0.1 (Nat.le_of_ble_eq_true rfl) (Nat.zero_le _) (Nat.zero_le _) (tX2_isMark s0 b1 ?_)
    show Go X (d + (n + 1) + 3) mc ms kX2_readSum Q 25 [(0, .ref a0), (1, .int (x1)), (2, .int (x2))] [.int ((fX2_isMark M a0 43))] M 0 0
    generalize hv1 : (fX2_isMark M a0 43) = v1
    replace H := H v1 hv1.symm
    refine g_if_eq 33 28 dX2_readSum_25 rfl rfl (fun c2 => ?_) (fun c2 => ?_)
    · skip
      replace H := H.1 c2
      refine g_aload_n 0 34 dX2_readSum_33 rfl rfl ?_
      refine g_bipush (45) 36 dX2_readSum_34 rfl rfl ?_
      obtain ⟨b2, H⟩ := H
      refine g_callV (mc1 := 0) (ms1 := 0) (b := a0) (rest := []) (av := [.int (45)]) kX2_isMark 39 dX2_readSum_36 rfl rfl mbX2_152 imX2_isMark seX2_isMark gcl2.1 s0.1 (Nat.le_of_ble_eq_true rfl) (Nat.zero_le _) (Nat.zero_le _) (tX2_isMark s0 b2 ?_)
      show Go X (d + (n + 1) + 3) mc ms kX2_readSum Q 39 [(0, .ref a0), (1, .int (x1)), (2, .int (x2))] [.int ((fX2_isMark M a0 45))] M 0 0
      generalize hv2 : (fX2_isMark M a0 45) = v2
      replace H := H v2 hv2.symm
      refine g_if_eq 47 42 dX2_readSum_39 rfl rfl (fun c3 => ?_) (fun c3 => ?_)
      · skip
        replace H := H.1 c3
        refine g_iconst ((-1)) 48 dX2_readSum_47 rfl rfl ?_
        refine g_istore_n 49 [(3, .int ((-1))), (0, .ref a0), (1, .int (x1)), (2, .int (x2))] dX2_readSum_48 rfl (Nat.le_of_ble_eq_true rfl) rfl ?_
        refine g_iload_n 0 50 dX2_readSum_49 rfl rfl ?_
        refine g_iconst ((-1)) 51 dX2_readSum_50 rfl rfl ?_
        refine g_icmp_ne 56 54 dX2_readSum_51 rfl rfl (fun q => absurd q (by decide)) (fun _ => ?_)
        refine g_iconst (1) 55 dX2_readSum_54 rfl rfl ?_
        exact g_zret dX2_readSum_55 rfl (by decide) (Nat.zero_le _) (Nat.zero_le _) (hR _ _ _ Sm.rf H)
      · skip
        replace H := H.2 c3
        refine g_bipush (7) 44 dX2_readSum_42 rfl rfl ?_
        refine g_goto 48 dX2_readSum_44 rfl ?_
        refine g_istore_n 49 [(3, .int (7)), (0, .ref a0), (1, .int (x1)), (2, .int (x2))] dX2_readSum_48 rfl (Nat.le_of_ble_eq_true rfl) rfl ?_
        refine g_iload_n 0 50 dX2_readSum_49 rfl rfl ?_
        refine g_iconst ((-1)) 51 dX2_readSum_50 rfl rfl ?_
        refine g_icmp_ne 56 54 dX2_readSum_51 rfl rfl (fun _ => ?_) (fun q => absurd q (by decide))
        refine g_aload_n 1 57 dX2_readSum_56 rfl rfl ?_
        refine g_callV (mc1 := 0) (ms1 := 0) (b := a0) (rest := []) (av := []) kX2_pass 60 dX2_readSum_57 rfl rfl mbX2_111 imX2_pass seX2_pass gcl2.1 s0.1 (Nat.le_of_ble_eq_true rfl) (Nat.zero_le _) (Nat.zero_le _) (uX2_pass (N := N) (K := 0) s0 H (fun M1 jj H => ?_))
        have j1 : Sm M M1 := jj
        show Go X (d + (n + 1) + 3) mc ms kX2_readSum Q 60 [(3, .int (7)), (0, .ref a0), (1, .int (x1)), (2, .int (x2))] [] M1 0 0
        refine g_aload_n 1 61 dX2_readSum_60 rfl rfl ?_
        refine g_iload_n 2 62 dX2_readSum_61 rfl rfl ?_
        refine g_callV (mc1 := 0) (ms1 := 0) (b := a0) (rest := []) (av := [.int (x1)]) kX2_readTerm 65 dX2_readSum_62 rfl rfl mbX2_155 imX2_readTerm seX2_readTerm gcl2.1 (Sm.k j1 s0.1) (Nat.le_of_ble_eq_true rfl) (Nat.zero_le _) (Nat.zero_le _) ((ih.2.2.2.2.2.2.2.2.1) d _ 0 0 _ M1 a0 x1 0 0 _ (by omega) (Re.sm j1 s0) H (fun v3 w3 M2 jj H => ?_))
        have j2 : Sm M M2 := (Sm.tr j1 jj)
        show Go X (d + (n + 1) + 3) mc ms kX2_readSum Q 65 [(3, .int (7)), (0, .ref a0), (1, .int (x1)), (2, .int (x2))] [.int (v3)] M2 0 0
        refine g_if_ne 70 68 dX2_readSum_65 rfl rfl (fun c4 => ?_) (fun c4 => ?_)
        · skip
          replace H := H.1 c4
          refine g_aload_n 1 71 dX2_readSum_70 rfl rfl ?_
          refine g_getR 74 (a0 + 2) dX2_readSum_71 rfl flX2_20 (Sm.k j2 s0.1) (Sm.r j2 s0.2.2.2.1) ?_
          refine g_iload_n 0 75 dX2_readSum_74 rfl rfl ?_
          refine g_iconst (0) 76 dX2_readSum_75 rfl rfl ?_
          refine g_callV (mc1 := 0) (ms1 := 0) (b := (a0 + 2)) (rest := []) (av := [.int (7), .int (0)]) kX6_put 79 dX2_readSum_76 rfl rfl mbX2_124 imX6_put seX6_put gcl6.1 (Sm.k j2 s0.2.2.2.2.1.1) (Nat.le_of_ble_eq_true rfl) (Nat.zero_le _) (Nat.zero_le _) (uX6_put (N := N) (K := 0) (Tx.sm j2 s0.2.2.2.2.1) H (fun v4 M3 jj H => ?_))
          have j3 : Sm M M3 := Sm.tr j2 jj
          show Go X (d + (n + 1) + 3) mc ms kX2_readSum Q 79 [(3, .int (7)), (0, .ref a0), (1, .int (x1)), (2, .int (x2))] [.int (v4)] M3 0 0
          refine g_pop 80 dX2_readSum_79 rfl rfl ?_
          refine g_iinc _ 3 83 [(2, .int ((x2 + 1))), (3, .int (7)), (0, .ref a0), (1, .int (x1))] dX2_readSum_80 rfl rfl rfl (Nat.le_of_ble_eq_true rfl) rfl ?_
          refine g_goto 12 dX2_readSum_83 rfl ?_
          exact g_sub [2, 3, 0] _ rfl ((ih.2.2.2.2.2.2.2.1) (d + 1) _ _ _ _ M3 a0 x1 (x2 + 1) 0 _ (by omega) (Re.sm j3 s0) H (fun v w M1 j r => hR v w M1 (Sm.tr j3 j) r))
        · skip
          replace H := H.2 c4
          refine g_iconst (0) 69 dX2_readSum_68 rfl rfl ?_
          exact g_zret dX2_readSum_69 rfl (by decide) (Nat.zero_le _) (Nat.zero_le _) (hR _ _ _ j2 H)
    · skip
      replace H := H.2 c2
      refine g_bipush (6) 30 dX2_readSum_28 rfl rfl ?_
      refine g_goto 48 dX2_readSum_30 rfl ?_
      refine g_istore_n 49 [(3, .int (6)), (0, .ref a0), (1, .int (x1)), (2, .int (x2))] dX2_readSum_48 rfl (Nat.le_of_ble_eq_true rfl) rfl ?_
      refine g_iload_n 0 50 dX2_readSum_49 rfl rfl ?_
      refine g_iconst ((-1)) 51 dX2_readSum_50 rfl rfl ?_
      refine g_icmp_ne 56 54 dX2_readSum_51 rfl rfl (fun _ => ?_) (fun q => absurd q (by decide))
      refine g_aload_n 1 57 dX2_readSum_56 rfl rfl ?_
      refine g_callV (mc1 := 0) (ms1 := 0) (b := a0) (rest := []) (av := []) kX2_pass 60 dX2_readSum_57 rfl rfl mbX2_111 imX2_pass seX2_pass gcl2.1 s0.1 (Nat.le_of_ble_eq_true rfl) (Nat.zero_le _) (Nat.zero_le _) (uX2_pass (N := N) (K := 0) s0 H (fun M4 jj H => ?_))
      have j4 : Sm M M4 := jj
      show Go X (d + (n + 1) + 3) mc ms kX2_readSum Q 60 [(3, .int (6)), (0, .ref a0), (1, .int (x1)), (2, .int (x2))] [] M4 0 0
      refine g_aload_n 1 61 dX2_readSum_60 rfl rfl ?_
      refine g_iload_n 2 62 dX2_readSum_61 rfl rfl ?_
      refine g_callV (mc1 := 0) (ms1 := 0) (b := a0) (rest := []) (av := [.int (x1)]) kX2_readTerm 65 dX2_readSum_62 rfl rfl mbX2_155 imX2_readTerm seX2_readTerm gcl2.1 (Sm.k j4 s0.1) (Nat.le_of_ble_eq_true rfl) (Nat.zero_le _) (Nat.zero_le _) ((ih.2.2.2.2.2.2.2.2.1) d _ 0 0 _ M4 a0 x1 0 0 _ (by omega) (Re.sm j4 s0) H (fun v5 w5 M5 jj H => ?_))
      have j5 : Sm M M5 := (Sm.tr j4 jj)
      show Go X (d + (n + 1) + 3) mc ms kX2_readSum Q 65 [(3, .int (6)), (0, .ref a0), (1, .int (x1)), (2, .int (x2))] [.int (v5)] M5 0 0
      refine g_if_ne 70 68 dX2_readSum_65 rfl rfl (fun c5 => ?_) (fun c5 => ?_)
      · skip
        replace H := H.1 c5
        refine g_aload_n 1 71 dX2_readSum_70 rfl rfl ?_
        refine g_getR 74 (a0 + 2) dX2_readSum_71 rfl flX2_20 (Sm.k j5 s0.1) (Sm.r j5 s0.2.2.2.1) ?_
        refine g_iload_n 0 75 dX2_readSum_74 rfl rfl ?_
        refine g_iconst (0) 76 dX2_readSum_75 rfl rfl ?_
        refine g_callV (mc1 := 0) (ms1 := 0) (b := (a0 + 2)) (rest := []) (av := [.int (6), .int (0)]) kX6_put 79 dX2_readSum_76 rfl rfl mbX2_124 imX6_put seX6_put gcl6.1 (Sm.k j5 s0.2.2.2.2.1.1) (Nat.le_of_ble_eq_true rfl) (Nat.zero_le _) (Nat.zero_le _) (uX6_put (N := N) (K := 0) (Tx.sm j5 s0.2.2.2.2.1) H (fun v6 M6 jj H => ?_))
        have j6 : Sm M M6 := Sm.tr j5 jj
        show Go X (d + (n + 1) + 3) mc ms kX2_readSum Q 79 [(3, .int (6)), (0, .ref a0), (1, .int (x1)), (2, .int (x2))] [.int (v6)] M6 0 0
        refine g_pop 80 dX2_readSum_79 rfl rfl ?_
        refine g_iinc _ 3 83 [(2, .int ((x2 + 1))), (3, .int (6)), (0, .ref a0), (1, .int (x1))] dX2_readSum_80 rfl rfl rfl (Nat.le_of_ble_eq_true rfl) rfl ?_
        refine g_goto 12 dX2_readSum_83 rfl ?_
        exact g_sub [2, 3, 0] _ rfl ((ih.2.2.2.2.2.2.2.1) (d + 1) _ _ _ _ M6 a0 x1 (x2 + 1) 0 _ (by omega) (Re.sm j6 s0) H (fun v w M1 j r => hR v w M1 (Sm.tr j6 j) r))
      · skip
        replace H := H.2 c5
        refine g_iconst (0) 69 dX2_readSum_68 rfl rfl ?_
        exact g_zret dX2_readSum_69 rfl (by decide) (Nat.zero_le _) (Nat.zero_le _) (hR _ _ _ j5 H)
set_option maxRecDepth 10000 in
theorem uzX2_readTerm_0 {X : gX} {N : Nat} {n : Nat} (ih : UgCP X N n) : UX2_readTerm_0 X N (n + 1) := by
  intro d D mc ms Q M a0 x1 x2 x3 R hD s0 H hR
  subst hD
  rw [qgCP, if_neg (show ¬ (8 : Nat) = 0 by decide), if_neg (show ¬ (8 : Nat) = 1 by decide), if_neg (show ¬ (8 : Nat) = 2 by decide), if_neg (show ¬ (8 : Nat) = 3 by decide), if_neg (show ¬ (8 : Nat) = 4 by decide), if_neg (show ¬ (8 : Nat) = 5 by decide), if_neg (show ¬ (8 : Nat) = 6 by decide), if_neg (show ¬ (8 : Nat) = 7 by decide), if_pos (show (8 : Nat) = 8 from rfl)] at H
  unfold pX2_readTerm_0 at H
  refine g_meth rfl rfl (Nat.le_of_ble_eq_true rfl) rfl ?_
  refine g_aload_n 0 1 dX2_readTerm_0 rfl rfl ?_
  refine g_iload_n 1 2 dX2_readTerm_1 rfl rfl ?_
  refine g_callV (mc1 := 0) (ms1 := 0) (b := a0) (rest := []) (av := [.int (x1)]) kX2_readPiece 5 dX2_readTerm_2 rfl rfl mbX2_158 imX2_readPiece seX2_readPiece gcl2.1 s0.1 (Nat.le_of_ble_eq_true rfl) (Nat.zero_le _) (Nat.zero_le _) ((ih.2.2.2.2.2.2.2.2.2.2) d _ 0 0 _ M a0 x1 0 0 _ (by omega) s0 H (fun v1 w1 M1 jj H => ?_))
  have j1 : Sm M M1 := jj
  show Go X (d + (n + 1) + 3) mc ms kX2_readTerm Q 5 [(0, .ref a0), (1, .int (x1))] [.int (v1)] M1 0 0
  refine g_if_ne 10 8 dX2_readTerm_5 rfl rfl (fun c1 => ?_) (fun c1 => ?_)
  · skip
    replace H := H.1 c1
    refine g_iconst (0) 11 dX2_readTerm_10 rfl rfl ?_
    refine g_istore_n 12 [(2, .int (0)), (0, .ref a0), (1, .int (x1))] dX2_readTerm_11 rfl (Nat.le_of_ble_eq_true rfl) rfl ?_
    exact g_sub [1, 2, 0] _ rfl ((ih.2.2.2.2.2.2.2.2.2.1) (d + 1) _ _ _ _ M1 a0 x1 0 0 _ (by omega) (Re.sm j1 s0) H (fun v w M1 j r => hR v w M1 (Sm.tr j1 j) r))
  · skip
    replace H := H.2 c1
    refine g_iconst (0) 9 dX2_readTerm_8 rfl rfl ?_
    exact g_zret dX2_readTerm_9 rfl (by decide) (Nat.zero_le _) (Nat.zero_le _) (hR _ _ _ j1 H)
set_option maxRecDepth 10000 in
theorem uzX2_readTerm_12 {X : gX} {N : Nat} {n : Nat} (ih : UgCP X N n) : UX2_readTerm_12 X N (n + 1) := by
  intro d D mc ms Q M a0 x1 x2 x3 R hD s0 H hR
  subst hD
  rw [qgCP, if_neg (show ¬ (9 : Nat) = 0 by decide), if_neg (show ¬ (9 : Nat) = 1 by decide), if_neg (show ¬ (9 : Nat) = 2 by decide), if_neg (show ¬ (9 : Nat) = 3 by decide), if_neg (show ¬ (9 : Nat) = 4 by decide), if_neg (show ¬ (9 : Nat) = 5 by decide), if_neg (show ¬ (9 : Nat) = 6 by decide), if_neg (show ¬ (9 : Nat) = 7 by decide), if_neg (show ¬ (9 : Nat) = 8 by decide), if_pos (show (9 : Nat) = 9 from rfl)] at H
  unfold pX2_readTerm_12 at H
  refine g_iload_n 2 13 dX2_readTerm_12 rfl rfl ?_
  refine g_sipush (400) 16 dX2_readTerm_13 rfl rfl ?_
  refine g_icmp_ge 100 19 dX2_readTerm_16 rfl rfl (fun c1 => ?_) (fun c1 => ?_)
  · skip
    replace H := H.1 c1
    refine g_iconst (1) 101 dX2_readTerm_100 rfl rfl ?_
    exact g_zret dX2_readTerm_101 rfl (by decide) (Nat.zero_le _) (Nat.zero_le _) (hR _ _ _ Sm.rf H)
  · skip
    replace H := H.2 c1
    refine g_aload_n 0 20 dX2_readTerm_19 rfl rfl ?_
    refine g_bipush (42) 22 dX2_readTerm_20 rfl rfl ?_
    obtain ⟨b1, H⟩ := H
    refine g_callV (mc1 := 0) (ms1 := 0) (b := a0) (rest := []) (av := [.int (42)]) kX2_isMark 25 dX2_readTerm_22 rfl rfl mbX2_152 imX2_isMark seX2_isMark gcl2.1 s0.1 (Nat.le_of_ble_eq_true rfl) (Nat.zero_le _) (Nat.zero_le _) (tX2_isMark s0 b1 ?_)
    show Go X (d + (n + 1) + 3) mc ms kX2_readTerm Q 25 [(0, .ref a0), (1, .int (x1)), (2, .int (x2))] [.int ((fX2_isMark M a0 42))] M 0 0
    generalize hv1 : (fX2_isMark M a0 42) = v1
    replace H := H v1 hv1.symm
    refine g_if_eq 33 28 dX2_readTerm_25 rfl rfl (fun c2 => ?_) (fun c2 => ?_)
    · skip
      replace H := H.1 c2
      refine g_aload_n 0 34 dX2_readTerm_33 rfl rfl ?_
      refine g_bipush (47) 36 dX2_readTerm_34 rfl rfl ?_
      obtain ⟨b2, H⟩ := H
      refine g_callV (mc1 := 0) (ms1 := 0) (b := a0) (rest := []) (av := [.int (47)]) kX2_isMark 39 dX2_readTerm_36 rfl rfl mbX2_152 imX2_isMark seX2_isMark gcl2.1 s0.1 (Nat.le_of_ble_eq_true rfl) (Nat.zero_le _) (Nat.zero_le _) (tX2_isMark s0 b2 ?_)
      show Go X (d + (n + 1) + 3) mc ms kX2_readTerm Q 39 [(0, .ref a0), (1, .int (x1)), (2, .int (x2))] [.int ((fX2_isMark M a0 47))] M 0 0
      generalize hv2 : (fX2_isMark M a0 47) = v2
      replace H := H v2 hv2.symm
      refine g_if_eq 47 42 dX2_readTerm_39 rfl rfl (fun c3 => ?_) (fun c3 => ?_)
      · skip
        replace H := H.1 c3
        refine g_aload_n 0 48 dX2_readTerm_47 rfl rfl ?_
        refine g_bipush (37) 50 dX2_readTerm_48 rfl rfl ?_
        obtain ⟨b3, H⟩ := H
        refine g_callV (mc1 := 0) (ms1 := 0) (b := a0) (rest := []) (av := [.int (37)]) kX2_isMark 53 dX2_readTerm_50 rfl rfl mbX2_152 imX2_isMark seX2_isMark gcl2.1 s0.1 (Nat.le_of_ble_eq_true rfl) (Nat.zero_le _) (Nat.zero_le _) (tX2_isMark s0 b3 ?_)
        show Go X (d + (n + 1) + 3) mc ms kX2_readTerm Q 53 [(0, .ref a0), (1, .int (x1)), (2, .int (x2))] [.int ((fX2_isMark M a0 37))] M 0 0
        generalize hv3 : (fX2_isMark M a0 37) = v3
        replace H := H v3 hv3.symm
        refine g_if_eq 61 56 dX2_readTerm_53 rfl rfl (fun c4 => ?_) (fun c4 => ?_)
        · skip
          replace H := H.1 c4
          refine g_iconst ((-1)) 62 dX2_readTerm_61 rfl rfl ?_
          refine g_istore_n 63 [(3, .int ((-1))), (0, .ref a0), (1, .int (x1)), (2, .int (x2))] dX2_readTerm_62 rfl (Nat.le_of_ble_eq_true rfl) rfl ?_
          refine g_iload_n 0 64 dX2_readTerm_63 rfl rfl ?_
          refine g_iconst ((-1)) 65 dX2_readTerm_64 rfl rfl ?_
          refine g_icmp_ne 70 68 dX2_readTerm_65 rfl rfl (fun q => absurd q (by decide)) (fun _ => ?_)
          refine g_iconst (1) 69 dX2_readTerm_68 rfl rfl ?_
          exact g_zret dX2_readTerm_69 rfl (by decide) (Nat.zero_le _) (Nat.zero_le _) (hR _ _ _ Sm.rf H)
        · skip
          replace H := H.2 c4
          refine g_bipush (10) 58 dX2_readTerm_56 rfl rfl ?_
          refine g_goto 62 dX2_readTerm_58 rfl ?_
          refine g_istore_n 63 [(3, .int (10)), (0, .ref a0), (1, .int (x1)), (2, .int (x2))] dX2_readTerm_62 rfl (Nat.le_of_ble_eq_true rfl) rfl ?_
          refine g_iload_n 0 64 dX2_readTerm_63 rfl rfl ?_
          refine g_iconst ((-1)) 65 dX2_readTerm_64 rfl rfl ?_
          refine g_icmp_ne 70 68 dX2_readTerm_65 rfl rfl (fun _ => ?_) (fun q => absurd q (by decide))
          refine g_aload_n 1 71 dX2_readTerm_70 rfl rfl ?_
          refine g_callV (mc1 := 0) (ms1 := 0) (b := a0) (rest := []) (av := []) kX2_pass 74 dX2_readTerm_71 rfl rfl mbX2_111 imX2_pass seX2_pass gcl2.1 s0.1 (Nat.le_of_ble_eq_true rfl) (Nat.zero_le _) (Nat.zero_le _) (uX2_pass (N := N) (K := 0) s0 H (fun M1 jj H => ?_))
          have j1 : Sm M M1 := jj
          show Go X (d + (n + 1) + 3) mc ms kX2_readTerm Q 74 [(3, .int (10)), (0, .ref a0), (1, .int (x1)), (2, .int (x2))] [] M1 0 0
          refine g_aload_n 1 75 dX2_readTerm_74 rfl rfl ?_
          refine g_iload_n 2 76 dX2_readTerm_75 rfl rfl ?_
          refine g_callV (mc1 := 0) (ms1 := 0) (b := a0) (rest := []) (av := [.int (x1)]) kX2_readPiece 79 dX2_readTerm_76 rfl rfl mbX2_158 imX2_readPiece seX2_readPiece gcl2.1 (Sm.k j1 s0.1) (Nat.le_of_ble_eq_true rfl) (Nat.zero_le _) (Nat.zero_le _) ((ih.2.2.2.2.2.2.2.2.2.2) d _ 0 0 _ M1 a0 x1 0 0 _ (by omega) (Re.sm j1 s0) H (fun v4 w4 M2 jj H => ?_))
          have j2 : Sm M M2 := (Sm.tr j1 jj)
          show Go X (d + (n + 1) + 3) mc ms kX2_readTerm Q 79 [(3, .int (10)), (0, .ref a0), (1, .int (x1)), (2, .int (x2))] [.int (v4)] M2 0 0
          refine g_if_ne 84 82 dX2_readTerm_79 rfl rfl (fun c5 => ?_) (fun c5 => ?_)
          · skip
            replace H := H.1 c5
            refine g_aload_n 1 85 dX2_readTerm_84 rfl rfl ?_
            refine g_getR 88 (a0 + 2) dX2_readTerm_85 rfl flX2_20 (Sm.k j2 s0.1) (Sm.r j2 s0.2.2.2.1) ?_
            refine g_iload_n 0 89 dX2_readTerm_88 rfl rfl ?_
            refine g_iconst (0) 90 dX2_readTerm_89 rfl rfl ?_
            refine g_callV (mc1 := 0) (ms1 := 0) (b := (a0 + 2)) (rest := []) (av := [.int (10), .int (0)]) kX6_put 93 dX2_readTerm_90 rfl rfl mbX2_124 imX6_put seX6_put gcl6.1 (Sm.k j2 s0.2.2.2.2.1.1) (Nat.le_of_ble_eq_true rfl) (Nat.zero_le _) (Nat.zero_le _) (uX6_put (N := N) (K := 0) (Tx.sm j2 s0.2.2.2.2.1) H (fun v5 M3 jj H => ?_))
            have j3 : Sm M M3 := Sm.tr j2 jj
            show Go X (d + (n + 1) + 3) mc ms kX2_readTerm Q 93 [(3, .int (10)), (0, .ref a0), (1, .int (x1)), (2, .int (x2))] [.int (v5)] M3 0 0
            refine g_pop 94 dX2_readTerm_93 rfl rfl ?_
            refine g_iinc _ 3 97 [(2, .int ((x2 + 1))), (3, .int (10)), (0, .ref a0), (1, .int (x1))] dX2_readTerm_94 rfl rfl rfl (Nat.le_of_ble_eq_true rfl) rfl ?_
            refine g_goto 12 dX2_readTerm_97 rfl ?_
            exact g_sub [2, 3, 0] _ rfl ((ih.2.2.2.2.2.2.2.2.2.1) (d + 1) _ _ _ _ M3 a0 x1 (x2 + 1) 0 _ (by omega) (Re.sm j3 s0) H (fun v w M1 j r => hR v w M1 (Sm.tr j3 j) r))
          · skip
            replace H := H.2 c5
            refine g_iconst (0) 83 dX2_readTerm_82 rfl rfl ?_
            exact g_zret dX2_readTerm_83 rfl (by decide) (Nat.zero_le _) (Nat.zero_le _) (hR _ _ _ j2 H)
      · skip
        replace H := H.2 c3
        refine g_bipush (9) 44 dX2_readTerm_42 rfl rfl ?_
        refine g_goto 62 dX2_readTerm_44 rfl ?_
        refine g_istore_n 63 [(3, .int (9)), (0, .ref a0), (1, .int (x1)), (2, .int (x2))] dX2_readTerm_62 rfl (Nat.le_of_ble_eq_true rfl) rfl ?_
        refine g_iload_n 0 64 dX2_readTerm_63 rfl rfl ?_
        refine g_iconst ((-1)) 65 dX2_readTerm_64 rfl rfl ?_
        refine g_icmp_ne 70 68 dX2_readTerm_65 rfl rfl (fun _ => ?_) (fun q => absurd q (by decide))
        refine g_aload_n 1 71 dX2_readTerm_70 rfl rfl ?_
        refine g_callV (mc1 := 0) (ms1 := 0) (b := a0) (rest := []) (av := []) kX2_pass 74 dX2_readTerm_71 rfl rfl mbX2_111 imX2_pass seX2_pass gcl2.1 s0.1 (Nat.le_of_ble_eq_true rfl) (Nat.zero_le _) (Nat.zero_le _) (uX2_pass (N := N) (K := 0) s0 H (fun M4 jj H => ?_))
        have j4 : Sm M M4 := jj
        show Go X (d + (n + 1) + 3) mc ms kX2_readTerm Q 74 [(3, .int (9)), (0, .ref a0), (1, .int (x1)), (2, .int (x2))] [] M4 0 0
        refine g_aload_n 1 75 dX2_readTerm_74 rfl rfl ?_
        refine g_iload_n 2 76 dX2_readTerm_75 rfl rfl ?_
        refine g_callV (mc1 := 0) (ms1 := 0) (b := a0) (rest := []) (av := [.int (x1)]) kX2_readPiece 79 dX2_readTerm_76 rfl rfl mbX2_158 imX2_readPiece seX2_readPiece gcl2.1 (Sm.k j4 s0.1) (Nat.le_of_ble_eq_true rfl) (Nat.zero_le _) (Nat.zero_le _) ((ih.2.2.2.2.2.2.2.2.2.2) d _ 0 0 _ M4 a0 x1 0 0 _ (by omega) (Re.sm j4 s0) H (fun v6 w6 M5 jj H => ?_))
        have j5 : Sm M M5 := (Sm.tr j4 jj)
        show Go X (d + (n + 1) + 3) mc ms kX2_readTerm Q 79 [(3, .int (9)), (0, .ref a0), (1, .int (x1)), (2, .int (x2))] [.int (v6)] M5 0 0
        refine g_if_ne 84 82 dX2_readTerm_79 rfl rfl (fun c6 => ?_) (fun c6 => ?_)
        · skip
          replace H := H.1 c6
          refine g_aload_n 1 85 dX2_readTerm_84 rfl rfl ?_
          refine g_getR 88 (a0 + 2) dX2_readTerm_85 rfl flX2_20 (Sm.k j5 s0.1) (Sm.r j5 s0.2.2.2.1) ?_
          refine g_iload_n 0 89 dX2_readTerm_88 rfl rfl ?_
          refine g_iconst (0) 90 dX2_readTerm_89 rfl rfl ?_
          refine g_callV (mc1 := 0) (ms1 := 0) (b := (a0 + 2)) (rest := []) (av := [.int (9), .int (0)]) kX6_put 93 dX2_readTerm_90 rfl rfl mbX2_124 imX6_put seX6_put gcl6.1 (Sm.k j5 s0.2.2.2.2.1.1) (Nat.le_of_ble_eq_true rfl) (Nat.zero_le _) (Nat.zero_le _) (uX6_put (N := N) (K := 0) (Tx.sm j5 s0.2.2.2.2.1) H (fun v7 M6 jj H => ?_))
          have j6 : Sm M M6 := Sm.tr j5 jj
          show Go X (d + (n + 1) + 3) mc ms kX2_readTerm Q 93 [(3, .int (9)), (0, .ref a0), (1, .int (x1)), (2, .int (x2))] [.int (v7)] M6 0 0
          refine g_pop 94 dX2_readTerm_93 rfl rfl ?_
          refine g_iinc _ 3 97 [(2, .int ((x2 + 1))), (3, .int (9)), (0, .ref a0), (1, .int (x1))] dX2_readTerm_94 rfl rfl rfl (Nat.le_of_ble_eq_true rfl) rfl ?_
          refine g_goto 12 dX2_readTerm_97 rfl ?_
          exact g_sub [2, 3, 0] _ rfl ((ih.2.2.2.2.2.2.2.2.2.1) (d + 1) _ _ _ _ M6 a0 x1 (x2 + 1) 0 _ (by omega) (Re.sm j6 s0) H (fun v w M1 j r => hR v w M1 (Sm.tr j6 j) r))
        · skip
          replace H := H.2 c6
          refine g_iconst (0) 83 dX2_readTerm_82 rfl rfl ?_
          exact g_zret dX2_readTerm_83 rfl (by decide) (Nat.zero_le _) (Nat.zero_le _) (hR _ _ _ j5 H)
    · skip
      replace H := H.2 c2
      refine g_bipush (8) 30 dX2_readTerm_28 rfl rfl ?_
      refine g_goto 62 dX2_readTerm_30 rfl ?_
      refine g_istore_n 63 [(3, .int (8)), (0, .ref a0), (1, .int (x1)), (2, .int (x2))] dX2_readTerm_62 rfl (Nat.le_of_ble_eq_true rfl) rfl ?_
      refine g_iload_n 0 64 dX2_readTerm_63 rfl rfl ?_
      refine g_iconst ((-1)) 65 dX2_readTerm_64 rfl rfl ?_
      refine g_icmp_ne 70 68 dX2_readTerm_65 rfl rfl (fun _ => ?_) (fun q => absurd q (by decide))
      refine g_aload_n 1 71 dX2_readTerm_70 rfl rfl ?_
      refine g_callV (mc1 := 0) (ms1 := 0) (b := a0) (rest := []) (av := []) kX2_pass 74 dX2_readTerm_71 rfl rfl mbX2_111 imX2_pass seX2_pass gcl2.1 s0.1 (Nat.le_of_ble_eq_true rfl) (Nat.zero_le _) (Nat.zero_le _) (uX2_pass (N := N) (K := 0) s0 H (fun M7 jj H => ?_))
      have j7 : Sm M M7 := jj
      show Go X (d + (n + 1) + 3) mc ms kX2_readTerm Q 74 [(3, .int (8)), (0, .ref a0), (1, .int (x1)), (2, .int (x2))] [] M7 0 0
      refine g_aload_n 1 75 dX2_readTerm_74 rfl rfl ?_
      refine g_iload_n 2 76 dX2_readTerm_75 rfl rfl ?_
      refine g_callV (mc1 := 0) (ms1 := 0) (b := a0) (rest := []) (av := [.int (x1)]) kX2_readPiece 79 dX2_readTerm_76 rfl rfl mbX2_158 imX2_readPiece seX2_readPiece gcl2.1 (Sm.k j7 s0.1) (Nat.le_of_ble_eq_true rfl) (Nat.zero_le _) (Nat.zero_le _) ((ih.2.2.2.2.2.2.2.2.2.2) d _ 0 0 _ M7 a0 x1 0 0 _ (by omega) (Re.sm j7 s0) H (fun v8 w8 M8 jj H => ?_))
      have j8 : Sm M M8 := (Sm.tr j7 jj)
      show Go X (d + (n + 1) + 3) mc ms kX2_readTerm Q 79 [(3, .int (8)), (0, .ref a0), (1, .int (x1)), (2, .int (x2))] [.int (v8)] M8 0 0
      refine g_if_ne 84 82 dX2_readTerm_79 rfl rfl (fun c7 => ?_) (fun c7 => ?_)
      · skip
        replace H := H.1 c7
        refine g_aload_n 1 85 dX2_readTerm_84 rfl rfl ?_
        refine g_getR 88 (a0 + 2) dX2_readTerm_85 rfl flX2_20 (Sm.k j8 s0.1) (Sm.r j8 s0.2.2.2.1) ?_
        refine g_iload_n 0 89 dX2_readTerm_88 rfl rfl ?_
        refine g_iconst (0) 90 dX2_readTerm_89 rfl rfl ?_
        refine g_callV (mc1 := 0) (ms1 := 0) (b := (a0 + 2)) (rest := []) (av := [.int (8), .int (0)]) kX6_put 93 dX2_readTerm_90 rfl rfl mbX2_124 imX6_put seX6_put gcl6.1 (Sm.k j8 s0.2.2.2.2.1.1) (Nat.le_of_ble_eq_true rfl) (Nat.zero_le _) (Nat.zero_le _) (uX6_put (N := N) (K := 0) (Tx.sm j8 s0.2.2.2.2.1) H (fun v9 M9 jj H => ?_))
        have j9 : Sm M M9 := Sm.tr j8 jj
        show Go X (d + (n + 1) + 3) mc ms kX2_readTerm Q 93 [(3, .int (8)), (0, .ref a0), (1, .int (x1)), (2, .int (x2))] [.int (v9)] M9 0 0
        refine g_pop 94 dX2_readTerm_93 rfl rfl ?_
        refine g_iinc _ 3 97 [(2, .int ((x2 + 1))), (3, .int (8)), (0, .ref a0), (1, .int (x1))] dX2_readTerm_94 rfl rfl rfl (Nat.le_of_ble_eq_true rfl) rfl ?_
        refine g_goto 12 dX2_readTerm_97 rfl ?_
        exact g_sub [2, 3, 0] _ rfl ((ih.2.2.2.2.2.2.2.2.2.1) (d + 1) _ _ _ _ M9 a0 x1 (x2 + 1) 0 _ (by omega) (Re.sm j9 s0) H (fun v w M1 j r => hR v w M1 (Sm.tr j9 j) r))
      · skip
        replace H := H.2 c7
        refine g_iconst (0) 83 dX2_readTerm_82 rfl rfl ?_
        exact g_zret dX2_readTerm_83 rfl (by decide) (Nat.zero_le _) (Nat.zero_le _) (hR _ _ _ j8 H)
set_option maxRecDepth 10000 in
theorem uzX2_readPiece_0 {X : gX} {N : Nat} {n : Nat} (ih : UgCP X N n) : UX2_readPiece_0 X N (n + 1) := by
  intro d D mc ms Q M a0 x1 x2 x3 R hD s0 H hR
  subst hD
  rw [qgCP, if_neg (show ¬ (10 : Nat) = 0 by decide), if_neg (show ¬ (10 : Nat) = 1 by decide), if_neg (show ¬ (10 : Nat) = 2 by decide), if_neg (show ¬ (10 : Nat) = 3 by decide), if_neg (show ¬ (10 : Nat) = 4 by decide), if_neg (show ¬ (10 : Nat) = 5 by decide), if_neg (show ¬ (10 : Nat) = 6 by decide), if_neg (show ¬ (10 : Nat) = 7 by decide), if_neg (show ¬ (10 : Nat) = 8 by decide), if_neg (show ¬ (10 : Nat) = 9 by decide)] at H
  unfold pX2_readPiece_0 at H
  refine g_meth rfl rfl (Nat.le_of_ble_eq_true rfl) rfl ?_
  refine g_aload_n 0 1 dX2_readPiece_0 rfl rfl ?_
  refine g_bipush (91) 3 dX2_readPiece_1 rfl rfl ?_
  obtain ⟨b1, H⟩ := H
  refine g_callV (mc1 := 0) (ms1 := 0) (b := a0) (rest := []) (av := [.int (91)]) kX2_isMark 6 dX2_readPiece_3 rfl rfl mbX2_152 imX2_isMark seX2_isMark gcl2.1 s0.1 (Nat.le_of_ble_eq_true rfl) (Nat.zero_le _) (Nat.zero_le _) (tX2_isMark s0 b1 ?_)
  show Go X (d + (n + 1) + 3) mc ms kX2_readPiece Q 6 [(0, .ref a0), (1, .int (x1))] [.int ((fX2_isMark M a0 91))] M 0 0
  generalize hv1 : (fX2_isMark M a0 91) = v1
  replace H := H v1 hv1.symm
  refine g_if_eq 49 9 dX2_readPiece_6 rfl rfl (fun c1 => ?_) (fun c1 => ?_)
  · skip
    replace H := H.1 c1
    refine g_aload_n 0 50 dX2_readPiece_49 rfl rfl ?_
    refine g_getI 53 dX2_readPiece_50 rfl flX2_53 s0.1 ?_
    refine g_bipush (50) 55 dX2_readPiece_53 rfl rfl ?_
    refine g_icmp_lt 63 58 dX2_readPiece_55 rfl rfl (fun c2 => ?_) (fun c2 => ?_)
    · skip
      replace H := H.1 c2
      refine g_aload_n 0 64 dX2_readPiece_63 rfl rfl ?_
      refine g_dup 65 dX2_readPiece_64 rfl rfl ?_
      refine g_getI 68 dX2_readPiece_65 rfl flX2_53 s0.1 ?_
      refine g_iconst (1) 69 dX2_readPiece_68 rfl rfl ?_
      refine g_iadd 70 dX2_readPiece_69 rfl ?_
      refine g_putI 73 dX2_readPiece_70 rfl flX2_53 s0.1 ?_
      generalize hM1 : (g_wi M a0 11 ((g_mi M a0 11) + 1)) = M1
      have j1 : Sm M M1 := by rw [← hM1]; exact (Sm.wi Sm.rf)
      replace H := H M1 hM1.symm
      refine g_aload_n 0 74 dX2_readPiece_73 rfl rfl ?_
      refine g_getR 77 (a0 + 11) dX2_readPiece_74 rfl flX2_35 (Sm.k j1 s0.1) (Sm.r j1 s0.2.2.2.2.2.2.2.2.2.1) ?_
      refine g_aload_n 0 78 dX2_readPiece_77 rfl rfl ?_
      refine g_getI 81 dX2_readPiece_78 rfl flX2_50 (Sm.k j1 s0.1) ?_
      obtain ⟨b2, H⟩ := H
      refine h_iaload 82 ((g_mi M1 a0 10)).toNatClampNeg dX2_readPiece_81 rfl rfl (Sm.k j1 s0.2.2.2.2.2.2.2.2.2.2.1) b2 ?_
      refine g_istore_n 83 [(2, .int ((g_mi M1 (a0 + 11) ((g_mi M1 a0 10)).toNatClampNeg))), (0, .ref a0), (1, .int (x1))] dX2_readPiece_82 rfl (Nat.le_of_ble_eq_true rfl) rfl ?_
      refine g_aload_n 1 84 dX2_readPiece_83 rfl rfl ?_
      refine g_getI 87 dX2_readPiece_84 rfl flX2_59 (Sm.k j1 s0.1) ?_
      refine g_if_eq 116 90 dX2_readPiece_87 rfl rfl (fun c3 => ?_) (fun c3 => ?_)
      · skip
        replace H := H.1 c3
        exact g_sub [1, 0] _ rfl (uxX2_readPiece_116 ih (Re.sm j1 s0) H (fun v w M1 j r => hR v w M1 (Sm.tr j1 j) r))
      · skip
        replace H := H.2 c3
        refine g_iload_n 0 91 dX2_readPiece_90 rfl rfl ?_
        refine g_iconst (5) 92 dX2_readPiece_91 rfl rfl ?_
        refine g_icmp_eq 101 95 dX2_readPiece_92 rfl rfl (fun c4 => ?_) (fun c4 => ?_)
        · skip
          replace H := H.1 c4
          refine g_aload_n 1 102 dX2_readPiece_101 rfl rfl ?_
          refine g_iload_n 0 103 dX2_readPiece_102 rfl rfl ?_
          refine g_iconst (5) 104 dX2_readPiece_103 rfl rfl ?_
          refine g_icmp_ne 111 107 dX2_readPiece_104 rfl rfl (fun q => absurd c4 q) (fun _ => ?_)
          refine g_iconst (1) 108 dX2_readPiece_107 rfl rfl ?_
          refine g_goto 112 dX2_readPiece_108 rfl ?_
          refine g_callV (mc1 := 0) (ms1 := 0) (b := a0) (rest := []) (av := [.int (1)]) kX2_readLookup 115 dX2_readPiece_112 rfl rfl mbX2_161 imX2_readLookup seX2_readLookup gcl2.1 (Sm.k j1 s0.1) (Nat.le_of_ble_eq_true rfl) (Nat.zero_le _) (Nat.zero_le _) (uX2_readLookup (N := N) (K := 0) (Re.sm j1 s0) H (fun v2 M2 jj H => ?_))
          have j2 : Sm M M2 := Sm.tr j1 jj
          show Go X (d + (n + 1) + 3) mc ms kX2_readPiece Q 115 [(2, .int ((g_mi M1 (a0 + 11) ((g_mi M1 a0 10)).toNatClampNeg))), (0, .ref a0), (1, .int (x1))] [.int (v2)] M2 0 0
          obtain ⟨b3, H⟩ := H
          exact g_zret dX2_readPiece_115 rfl b3 (Nat.zero_le _) (Nat.zero_le _) (hR _ _ _ j2 H)
        · skip
          replace H := H.2 c4
          refine g_iload_n 0 96 dX2_readPiece_95 rfl rfl ?_
          refine g_bipush (10) 98 dX2_readPiece_96 rfl rfl ?_
          refine g_icmp_ne 116 101 dX2_readPiece_98 rfl rfl (fun c5 => ?_) (fun c5 => ?_)
          · skip
            replace H := H.1 c5
            exact g_sub [1, 0] _ rfl (uxX2_readPiece_116 ih (Re.sm j1 s0) H (fun v w M1 j r => hR v w M1 (Sm.tr j1 j) r))
          · skip
            replace H := H.2 c5
            refine g_aload_n 1 102 dX2_readPiece_101 rfl rfl ?_
            refine g_iload_n 0 103 dX2_readPiece_102 rfl rfl ?_
            refine g_iconst (5) 104 dX2_readPiece_103 rfl rfl ?_
            refine g_icmp_ne 111 107 dX2_readPiece_104 rfl rfl (fun _ => ?_) (fun q => absurd q c4)
            refine g_iconst (0) 112 dX2_readPiece_111 rfl rfl ?_
            refine g_callV (mc1 := 0) (ms1 := 0) (b := a0) (rest := []) (av := [.int (0)]) kX2_readLookup 115 dX2_readPiece_112 rfl rfl mbX2_161 imX2_readLookup seX2_readLookup gcl2.1 (Sm.k j1 s0.1) (Nat.le_of_ble_eq_true rfl) (Nat.zero_le _) (Nat.zero_le _) (uX2_readLookup (N := N) (K := 0) (Re.sm j1 s0) H (fun v3 M3 jj H => ?_))
            have j3 : Sm M M3 := Sm.tr j1 jj
            show Go X (d + (n + 1) + 3) mc ms kX2_readPiece Q 115 [(2, .int ((g_mi M1 (a0 + 11) ((g_mi M1 a0 10)).toNatClampNeg))), (0, .ref a0), (1, .int (x1))] [.int (v3)] M3 0 0
            obtain ⟨b4, H⟩ := H
            exact g_zret dX2_readPiece_115 rfl b4 (Nat.zero_le _) (Nat.zero_le _) (hR _ _ _ j3 H)
    · skip
      replace H := H.2 c2
      refine g_aload_n 0 59 dX2_readPiece_58 rfl rfl ?_
      refine g_callV (mc1 := 0) (ms1 := 0) (b := a0) (rest := []) (av := []) kX2_fail 62 dX2_readPiece_59 rfl rfl mbX2_74 imX2_fail seX2_fail gcl2.1 s0.1 (Nat.le_of_ble_eq_true rfl) (Nat.zero_le _) (Nat.zero_le _) (uX2_fail (N := N) (K := 0) s0 H (fun v4 M4 jj H => ?_))
      have j4 : Sm M M4 := jj
      show Go X (d + (n + 1) + 3) mc ms kX2_readPiece Q 62 [(0, .ref a0), (1, .int (x1))] [.int (v4)] M4 0 0
      obtain ⟨b5, H⟩ := H
      exact g_zret dX2_readPiece_62 rfl b5 (Nat.zero_le _) (Nat.zero_le _) (hR _ _ _ j4 H)
  · skip
    replace H := H.2 c1
    refine g_iload_n 1 10 dX2_readPiece_9 rfl rfl ?_
    refine g_bipush (8) 12 dX2_readPiece_10 rfl rfl ?_
    refine g_icmp_lt 20 15 dX2_readPiece_12 rfl rfl (fun c6 => ?_) (fun c6 => ?_)
    · skip
      replace H := H.1 c6
      refine g_aload_n 0 21 dX2_readPiece_20 rfl rfl ?_
      refine g_callV (mc1 := 0) (ms1 := 0) (b := a0) (rest := []) (av := []) kX2_pass 24 dX2_readPiece_21 rfl rfl mbX2_111 imX2_pass seX2_pass gcl2.1 s0.1 (Nat.le_of_ble_eq_true rfl) (Nat.zero_le _) (Nat.zero_le _) (uX2_pass (N := N) (K := 0) s0 H (fun M5 jj H => ?_))
      have j5 : Sm M M5 := jj
      show Go X (d + (n + 1) + 3) mc ms kX2_readPiece Q 24 [(0, .ref a0), (1, .int (x1))] [] M5 0 0
      refine g_aload_n 0 25 dX2_readPiece_24 rfl rfl ?_
      refine g_iload_n 1 26 dX2_readPiece_25 rfl rfl ?_
      refine g_iconst (1) 27 dX2_readPiece_26 rfl rfl ?_
      refine g_iadd 28 dX2_readPiece_27 rfl ?_
      refine g_callV (mc1 := 0) (ms1 := 0) (b := a0) (rest := []) (av := [.int ((x1 + 1))]) kX2_readSum 31 dX2_readPiece_28 rfl rfl mbX2_127 imX2_readSum seX2_readSum gcl2.1 (Sm.k j5 s0.1) (Nat.le_of_ble_eq_true rfl) (Nat.zero_le _) (Nat.zero_le _) ((ih.2.2.2.2.2.2.1) d _ 0 0 _ M5 a0 (x1 + 1) 0 0 _ (by omega) (Re.sm j5 s0) H (fun v5 w5 M6 jj H => ?_))
      have j6 : Sm M M6 := (Sm.tr j5 jj)
      show Go X (d + (n + 1) + 3) mc ms kX2_readPiece Q 31 [(0, .ref a0), (1, .int (x1))] [.int (v5)] M6 0 0
      refine g_if_eq 47 34 dX2_readPiece_31 rfl rfl (fun c7 => ?_) (fun c7 => ?_)
      · skip
        replace H := H.1 c7
        refine g_iconst (0) 48 dX2_readPiece_47 rfl rfl ?_
        exact g_zret dX2_readPiece_48 rfl (by decide) (Nat.zero_le _) (Nat.zero_le _) (hR _ _ _ j6 H)
      · skip
        replace H := H.2 c7
        refine g_aload_n 0 35 dX2_readPiece_34 rfl rfl ?_
        refine g_bipush (93) 37 dX2_readPiece_35 rfl rfl ?_
        refine g_callV (mc1 := 0) (ms1 := 0) (b := a0) (rest := []) (av := [.int (93)]) kX2_passMark 40 dX2_readPiece_37 rfl rfl mbX2_70 imX2_passMark seX2_passMark gcl2.1 (Sm.k j6 s0.1) (Nat.le_of_ble_eq_true rfl) (Nat.zero_le _) (Nat.zero_le _) (uX2_passMark (N := N) (K := 0) (Re.sm j6 s0) H (fun v6 M7 jj H => ?_))
        have j7 : Sm M M7 := Sm.tr j6 jj
        show Go X (d + (n + 1) + 3) mc ms kX2_readPiece Q 40 [(0, .ref a0), (1, .int (x1))] [.int (v6)] M7 0 0
        refine g_if_eq 47 43 dX2_readPiece_40 rfl rfl (fun c8 => ?_) (fun c8 => ?_)
        · skip
          replace H := H.1 c8
          refine g_iconst (0) 48 dX2_readPiece_47 rfl rfl ?_
          exact g_zret dX2_readPiece_48 rfl (by decide) (Nat.zero_le _) (Nat.zero_le _) (hR _ _ _ j7 H)
        · skip
          replace H := H.2 c8
          refine g_iconst (1) 44 dX2_readPiece_43 rfl rfl ?_
          refine g_goto 48 dX2_readPiece_44 rfl ?_
          exact g_zret dX2_readPiece_48 rfl (by decide) (Nat.zero_le _) (Nat.zero_le _) (hR _ _ _ j7 H)
    · skip
      replace H := H.2 c6
      refine g_aload_n 0 16 dX2_readPiece_15 rfl rfl ?_
      refine g_callV (mc1 := 0) (ms1 := 0) (b := a0) (rest := []) (av := []) kX2_fail 19 dX2_readPiece_16 rfl rfl mbX2_74 imX2_fail seX2_fail gcl2.1 s0.1 (Nat.le_of_ble_eq_true rfl) (Nat.zero_le _) (Nat.zero_le _) (uX2_fail (N := N) (K := 0) s0 H (fun v7 M8 jj H => ?_))
      have j8 : Sm M M8 := jj
      show Go X (d + (n + 1) + 3) mc ms kX2_readPiece Q 19 [(0, .ref a0), (1, .int (x1))] [.int (v7)] M8 0 0
      obtain ⟨b6, H⟩ := H
      exact g_zret dX2_readPiece_19 rfl b6 (Nat.zero_le _) (Nat.zero_le _) (hR _ _ _ j8 H)
theorem ulgCP {X : gX} (N : Nat) : ∀ n : Nat, UgCP X N n := by
  intro n
  induction n with
  | zero => exact ⟨fun _ _ _ _ _ _ _ _ _ _ _ _ _ h _ => h.elim, fun _ _ _ _ _ _ _ _ _ _ _ _ _ h _ => h.elim, fun _ _ _ _ _ _ _ _ _ _ _ _ _ h _ => h.elim, fun _ _ _ _ _ _ _ _ _ _ _ _ _ h _ => h.elim, fun _ _ _ _ _ _ _ _ _ _ _ _ _ h _ => h.elim, fun _ _ _ _ _ _ _ _ _ _ _ _ _ h _ => h.elim, fun _ _ _ _ _ _ _ _ _ _ _ _ _ h _ => h.elim, fun _ _ _ _ _ _ _ _ _ _ _ _ _ h _ => h.elim, fun _ _ _ _ _ _ _ _ _ _ _ _ _ h _ => h.elim, fun _ _ _ _ _ _ _ _ _ _ _ _ _ h _ => h.elim, fun _ _ _ _ _ _ _ _ _ _ _ _ _ h _ => h.elim⟩
  | succ n ih => exact ⟨uzX2_readTest_0 ih, uzX2_readTest_12 ih, uzX2_readBoth_0 ih, uzX2_readBoth_12 ih, uzX2_readPlain_0 ih, uzX2_readPlain_4 ih, uzX2_readSum_0 ih, uzX2_readSum_12 ih, uzX2_readTerm_0 ih, uzX2_readTerm_12 ih, uzX2_readPiece_0 ih⟩
def pX2_readTest (N K : Nat) (M : gM) (a0 : Nat) (x1 : Int32) (R : Int32 → gM → Prop) : Prop := qgCP N K 0 M a0 x1 0 0 (fun v _ M1 => R v M1)
theorem uX2_readTest {N K : Nat} {X : gX} {d mc ms : Nat} {Q : Option Value → gM → Prop} {M : gM} {a0 : Nat} {x1 : Int32} {R : Int32 → gM → Prop} (s0 : Re M a0) (H : pX2_readTest N K M a0 x1 R) (hR : ∀ v M1, Sm M M1 → R v M1 → Q (some (.int v)) M1) : Cn X (d + K + 3) mc ms kX2_readTest [.ref a0, .int (x1)] M Q := by
  have ih := ulgCP (X := X) N K
  exact (ih.1) d _ mc ms Q M a0 x1 0 0 _ rfl s0 H (fun v w M1 j r => hR v M1 j r)
def pX2_readBoth (N K : Nat) (M : gM) (a0 : Nat) (x1 : Int32) (R : Int32 → gM → Prop) : Prop := qgCP N K 2 M a0 x1 0 0 (fun v _ M1 => R v M1)
theorem uX2_readBoth {N K : Nat} {X : gX} {d mc ms : Nat} {Q : Option Value → gM → Prop} {M : gM} {a0 : Nat} {x1 : Int32} {R : Int32 → gM → Prop} (s0 : Re M a0) (H : pX2_readBoth N K M a0 x1 R) (hR : ∀ v M1, Sm M M1 → R v M1 → Q (some (.int v)) M1) : Cn X (d + K + 3) mc ms kX2_readBoth [.ref a0, .int (x1)] M Q := by
  have ih := ulgCP (X := X) N K
  exact (ih.2.2.1) d _ mc ms Q M a0 x1 0 0 _ rfl s0 H (fun v w M1 j r => hR v M1 j r)
def pX2_readPlain (N K : Nat) (M : gM) (a0 : Nat) (x1 : Int32) (R : Int32 → gM → Prop) : Prop := qgCP N K 4 M a0 x1 0 0 (fun v _ M1 => R v M1)
theorem uX2_readPlain {N K : Nat} {X : gX} {d mc ms : Nat} {Q : Option Value → gM → Prop} {M : gM} {a0 : Nat} {x1 : Int32} {R : Int32 → gM → Prop} (s0 : Re M a0) (H : pX2_readPlain N K M a0 x1 R) (hR : ∀ v M1, Sm M M1 → R v M1 → Q (some (.int v)) M1) : Cn X (d + K + 3) mc ms kX2_readPlain [.ref a0, .int (x1)] M Q := by
  have ih := ulgCP (X := X) N K
  exact (ih.2.2.2.2.1) d _ mc ms Q M a0 x1 0 0 _ rfl s0 H (fun v w M1 j r => hR v M1 j r)
def pX2_readSum (N K : Nat) (M : gM) (a0 : Nat) (x1 : Int32) (R : Int32 → gM → Prop) : Prop := qgCP N K 6 M a0 x1 0 0 (fun v _ M1 => R v M1)
theorem uX2_readSum {N K : Nat} {X : gX} {d mc ms : Nat} {Q : Option Value → gM → Prop} {M : gM} {a0 : Nat} {x1 : Int32} {R : Int32 → gM → Prop} (s0 : Re M a0) (H : pX2_readSum N K M a0 x1 R) (hR : ∀ v M1, Sm M M1 → R v M1 → Q (some (.int v)) M1) : Cn X (d + K + 3) mc ms kX2_readSum [.ref a0, .int (x1)] M Q := by
  have ih := ulgCP (X := X) N K
  exact (ih.2.2.2.2.2.2.1) d _ mc ms Q M a0 x1 0 0 _ rfl s0 H (fun v w M1 j r => hR v M1 j r)
def pX2_readTerm (N K : Nat) (M : gM) (a0 : Nat) (x1 : Int32) (R : Int32 → gM → Prop) : Prop := qgCP N K 8 M a0 x1 0 0 (fun v _ M1 => R v M1)
theorem uX2_readTerm {N K : Nat} {X : gX} {d mc ms : Nat} {Q : Option Value → gM → Prop} {M : gM} {a0 : Nat} {x1 : Int32} {R : Int32 → gM → Prop} (s0 : Re M a0) (H : pX2_readTerm N K M a0 x1 R) (hR : ∀ v M1, Sm M M1 → R v M1 → Q (some (.int v)) M1) : Cn X (d + K + 3) mc ms kX2_readTerm [.ref a0, .int (x1)] M Q := by
  have ih := ulgCP (X := X) N K
  exact (ih.2.2.2.2.2.2.2.2.1) d _ mc ms Q M a0 x1 0 0 _ rfl s0 H (fun v w M1 j r => hR v M1 j r)
def pX2_readPiece (N K : Nat) (M : gM) (a0 : Nat) (x1 : Int32) (R : Int32 → gM → Prop) : Prop := qgCP N K 10 M a0 x1 0 0 (fun v _ M1 => R v M1)
theorem uX2_readPiece {N K : Nat} {X : gX} {d mc ms : Nat} {Q : Option Value → gM → Prop} {M : gM} {a0 : Nat} {x1 : Int32} {R : Int32 → gM → Prop} (s0 : Re M a0) (H : pX2_readPiece N K M a0 x1 R) (hR : ∀ v M1, Sm M M1 → R v M1 → Q (some (.int v)) M1) : Cn X (d + K + 3) mc ms kX2_readPiece [.ref a0, .int (x1)] M Q := by
  have ih := ulgCP (X := X) N K
  exact (ih.2.2.2.2.2.2.2.2.2.2) d _ mc ms Q M a0 x1 0 0 _ rfl s0 H (fun v w M1 j r => hR v M1 j r)
