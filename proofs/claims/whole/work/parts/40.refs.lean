/-! References that change: the rows of laws. -/
def Sq (M M2 : gM) : Prop := (∀ b v, g_kd M b = some v → g_kd M2 b = some v) ∧ (∀ b j c n, g_kd M b = some (c, n) → c ≠ 105 → g_mr M2 b j = g_mr M b j) ∧ g_nx M ≤ g_nx M2
theorem Sq.k {M M2 : gM} {a : Nat} {v : Nat × Nat} (h : Sq M M2) (e : g_kd M a = some v) : g_kd M2 a = some v := h.1 _ _ e
theorem Sq.r {M M2 : gM} {a c n j : Nat} {v : Option Nat} (h : Sq M M2) (hk : g_kd M a = some (c, n)) (hc : c ≠ 105) (e : g_mr M a j = v) : g_mr M2 a j = v := (h.2.1 a j c n hk hc).trans e
theorem Sq.rf {M : gM} : Sq M M := ⟨fun _ _ e => e, fun _ _ _ _ _ _ => rfl, Nat.le_refl _⟩
theorem Sq.tr {M M1 M2 : gM} (h : Sq M M1) (h2 : Sq M1 M2) : Sq M M2 := ⟨fun b v e => h2.1 b v (h.1 b v e), fun b j c n e hc => (h2.2.1 b j c n (h.1 b _ e) hc).trans (h.2.1 b j c n e hc), Nat.le_trans h.2.2 h2.2.2⟩
theorem Sl.sq {M M2 : gM} (h : Sl M M2) : Sq M M2 := ⟨fun b v e => by rw [h.1]; exact e, fun b j c n _ _ => by rw [h.2.1], by rw [h.2.2]; exact Nat.le_refl _⟩
theorem Sm.sq {M M2 : gM} (h : Sm M M2) : Sq M M2 := Sl.sq h.l
theorem Sq.wr {M : gM} {a n i : Nat} {v : Option Nat} (hk : g_kd M a = some (105, n)) : Sq M (g_wr M a i v) := ⟨fun b v e => e, fun b j c m e hc => by
  rw [g_mr_wr, g_u2_ne _ _ _ (fun q => by subst q; rw [hk] at e; cases e; exact hc rfl)], Nat.le_refl _⟩
/-- new cells alone -/
theorem Sq.fr {M M2 : gM} {a : Nat} (hF : Fr a M M2) (hk : ∀ b, g_kd M b ≠ none → b < a) (hn : g_nx M ≤ g_nx M2) : Sq M M2 := ⟨fun b v e => by rw [(hF b (hk b (by rw [e]; simp))).1]; exact e, fun b j c m e hc => by rw [(hF b (hk b (by rw [e]; simp))).2.1], hn⟩
theorem Tb.sq {M M2 : gM} {a : Nat} (h : Sq M M2) (e : Tb M a) : Tb M2 a := ⟨h.k e.1, h.r e.1 (by decide) e.2.1, h.k e.2.2.1, h.r e.1 (by decide) e.2.2.2.1, h.k e.2.2.2.2.1, h.r e.1 (by decide) e.2.2.2.2.2.1, h.k e.2.2.2.2.2.2⟩
theorem St.sq {M M2 : gM} {a : Nat} (h : Sq M M2) (e : St M a) : St M2 a := ⟨h.k e.1, h.r e.1 (by decide) e.2.1, h.k e.2.2.1, h.r e.1 (by decide) e.2.2.2.1, h.k e.2.2.2.2.1, h.r e.1 (by decide) e.2.2.2.2.2.1, Tb.sq h e.2.2.2.2.2.2⟩
theorem Su.sq {M M2 : gM} {a : Nat} (h : Sq M M2) (e : Su M a) : Su M2 a := ⟨h.k e.1, h.r e.1 (by decide) e.2.1, h.k e.2.2.1, h.r e.1 (by decide) e.2.2.2.1, h.k e.2.2.2.2⟩
theorem Pe.sq {M M2 : gM} {a : Nat} (h : Sq M M2) (e : Pe M a) : Pe M2 a := ⟨h.k e.1, h.r e.1 (by decide) e.2.1, h.k e.2.2.1, h.r e.1 (by decide) e.2.2.2.1, h.k e.2.2.2.2.1, h.r e.1 (by decide) e.2.2.2.2.2.1, h.k e.2.2.2.2.2.2.1, h.r e.1 (by decide) e.2.2.2.2.2.2.2.1, h.k e.2.2.2.2.2.2.2.2.1, h.r e.1 (by decide) e.2.2.2.2.2.2.2.2.2.1, h.k e.2.2.2.2.2.2.2.2.2.2.1, h.r e.1 (by decide) e.2.2.2.2.2.2.2.2.2.2.2.1, h.k e.2.2.2.2.2.2.2.2.2.2.2.2.1, h.r e.1 (by decide) e.2.2.2.2.2.2.2.2.2.2.2.2.2.1, h.k e.2.2.2.2.2.2.2.2.2.2.2.2.2.2.1, e.2.2.2.2.2.2.2.2.2.2.2.2.2.2.2.1, h.r e.1 (by decide) e.2.2.2.2.2.2.2.2.2.2.2.2.2.2.2.2.1, Su.sq h e.2.2.2.2.2.2.2.2.2.2.2.2.2.2.2.2.2⟩
theorem Tx.sq {M M2 : gM} {a : Nat} {n m : Nat} (h : Sq M M2) (e : Tx M a n m) : Tx M2 a n m := ⟨h.k e.1, h.r e.1 (by decide) e.2.1, h.k e.2.2.1, h.r e.1 (by decide) e.2.2.2.1, h.k e.2.2.2.2.1, h.r e.1 (by decide) e.2.2.2.2.2.1, h.k e.2.2.2.2.2.2.1, h.r e.1 (by decide) e.2.2.2.2.2.2.2.1, h.k e.2.2.2.2.2.2.2.2.1, h.r e.1 (by decide) e.2.2.2.2.2.2.2.2.2.1, h.k e.2.2.2.2.2.2.2.2.2.2.1, h.r e.1 (by decide) e.2.2.2.2.2.2.2.2.2.2.2.1, h.k e.2.2.2.2.2.2.2.2.2.2.2.2⟩
theorem Re.sq {M M2 : gM} {a : Nat} (h : Sq M M2) (e : Re M a) : Re M2 a := ⟨h.k e.1, h.r e.1 (by decide) e.2.1, h.k e.2.2.1, h.r e.1 (by decide) e.2.2.2.1, Tx.sq h e.2.2.2.2.1, h.r e.1 (by decide) e.2.2.2.2.2.1, h.k e.2.2.2.2.2.2.1, h.r e.1 (by decide) e.2.2.2.2.2.2.2.1, h.k e.2.2.2.2.2.2.2.2.1, h.r e.1 (by decide) e.2.2.2.2.2.2.2.2.2.1, h.k e.2.2.2.2.2.2.2.2.2.2.1, h.r e.1 (by decide) e.2.2.2.2.2.2.2.2.2.2.2.1, h.k e.2.2.2.2.2.2.2.2.2.2.2.2.1, h.r e.1 (by decide) e.2.2.2.2.2.2.2.2.2.2.2.2.2.1, h.k e.2.2.2.2.2.2.2.2.2.2.2.2.2.2⟩
theorem Wh.sq {M M2 : gM} {a : Nat} (h : Sq M M2) (e : Wh M a) : Wh M2 a := ⟨h.k e.1, h.r e.1 (by decide) e.2.1, St.sq h e.2.2.1, h.r e.1 (by decide) e.2.2.2.1, h.k e.2.2.2.2.1, h.r e.1 (by decide) e.2.2.2.2.2.1, h.k e.2.2.2.2.2.2.1, h.r e.1 (by decide) e.2.2.2.2.2.2.2.1, h.k e.2.2.2.2.2.2.2.2⟩
theorem Hi.sq {M M2 : gM} {a : Nat} (h : Sq M M2) (e : Hi M a) : Hi M2 a := ⟨h.k e.1, h.r e.1 (by decide) e.2.1, h.k e.2.2.1, h.r e.1 (by decide) e.2.2.2.1, h.k e.2.2.2.2.1, fun i hi => ⟨h.r e.2.2.1 (by decide) (e.2.2.2.2.2 i hi).1, St.sq h (e.2.2.2.2.2 i hi).2⟩⟩
theorem Ph.sq {M M2 : gM} {a : Nat} (h : Sq M M2) (e : Ph M a) : Ph M2 a := ⟨h.k e.1, h.r e.1 (by decide) e.2.1, Wh.sq h e.2.2.1, h.r e.1 (by decide) e.2.2.2.1, h.k e.2.2.2.2.1, h.r e.1 (by decide) e.2.2.2.2.2.1, Hi.sq h e.2.2.2.2.2.2.1, h.r e.1 (by decide) e.2.2.2.2.2.2.2.1, Hi.sq h e.2.2.2.2.2.2.2.2.1, h.r e.1 (by decide) e.2.2.2.2.2.2.2.2.2.1, St.sq h e.2.2.2.2.2.2.2.2.2.2.1, h.r e.1 (by decide) e.2.2.2.2.2.2.2.2.2.2.2.1, St.sq h e.2.2.2.2.2.2.2.2.2.2.2.2.1, h.r e.1 (by decide) e.2.2.2.2.2.2.2.2.2.2.2.2.2.1, Su.sq h e.2.2.2.2.2.2.2.2.2.2.2.2.2.2.1, h.r e.1 (by decide) e.2.2.2.2.2.2.2.2.2.2.2.2.2.2.2.1, Pe.sq h e.2.2.2.2.2.2.2.2.2.2.2.2.2.2.2.2.1, h.r e.1 (by decide) e.2.2.2.2.2.2.2.2.2.2.2.2.2.2.2.2.2.1, Re.sq h e.2.2.2.2.2.2.2.2.2.2.2.2.2.2.2.2.2.2.1, h.r e.1 (by decide) e.2.2.2.2.2.2.2.2.2.2.2.2.2.2.2.2.2.2.2.1, Tx.sq h e.2.2.2.2.2.2.2.2.2.2.2.2.2.2.2.2.2.2.2.2.1, h.r e.1 (by decide) e.2.2.2.2.2.2.2.2.2.2.2.2.2.2.2.2.2.2.2.2.2.1, h.k e.2.2.2.2.2.2.2.2.2.2.2.2.2.2.2.2.2.2.2.2.2.2.1, h.r e.1 (by decide) e.2.2.2.2.2.2.2.2.2.2.2.2.2.2.2.2.2.2.2.2.2.2.2.1, h.k e.2.2.2.2.2.2.2.2.2.2.2.2.2.2.2.2.2.2.2.2.2.2.2.2.1, h.r e.1 (by decide) e.2.2.2.2.2.2.2.2.2.2.2.2.2.2.2.2.2.2.2.2.2.2.2.2.2.1, h.k e.2.2.2.2.2.2.2.2.2.2.2.2.2.2.2.2.2.2.2.2.2.2.2.2.2.2.1, h.r e.1 (by decide) e.2.2.2.2.2.2.2.2.2.2.2.2.2.2.2.2.2.2.2.2.2.2.2.2.2.2.2.1, h.k e.2.2.2.2.2.2.2.2.2.2.2.2.2.2.2.2.2.2.2.2.2.2.2.2.2.2.2.2.1, h.r e.2.2.2.2.1 (by decide) e.2.2.2.2.2.2.2.2.2.2.2.2.2.2.2.2.2.2.2.2.2.2.2.2.2.2.2.2.2.1, Wh.sq h e.2.2.2.2.2.2.2.2.2.2.2.2.2.2.2.2.2.2.2.2.2.2.2.2.2.2.2.2.2.2.1, h.r e.2.2.2.2.1 (by decide) e.2.2.2.2.2.2.2.2.2.2.2.2.2.2.2.2.2.2.2.2.2.2.2.2.2.2.2.2.2.2.2.1, Wh.sq h e.2.2.2.2.2.2.2.2.2.2.2.2.2.2.2.2.2.2.2.2.2.2.2.2.2.2.2.2.2.2.2.2⟩
/-- what stands in a row of laws are texts -/
def LwO (M : gM) (b : Nat) : Prop := ∀ i v, g_mr M b i = some v → g_kd M v = some (6, 8)
def mw7 (M : gM) (a0 a1 i : Nat) : gM := g_wm M (fun b j => if b = a0 + 8 ∧ j < i then g_mi M (a1 + 8) j else if b = a0 + 9 ∧ j < i then g_mi M (a1 + 9) j else g_mi M b j) (g_ml M)
theorem w7_0 {M : gM} {a0 a1 : Nat} : M = mw7 M a0 a1 0 := by
  unfold mw7 g_wm
  have e : (fun b j => if b = a0 + 8 ∧ j < 0 then g_mi M (a1 + 8) j else if b = a0 + 9 ∧ j < 0 then g_mi M (a1 + 9) j else g_mi M b j) = g_mi M := by
    funext b j; rw [if_neg (by omega), if_neg (by omega)]
  rw [e]; rfl
theorem w7_s {M : gM} {a0 a1 i j : Nat} (hne : a0 + 20 < a1 ∨ a1 + 20 < a0) (hj : i + 1 = j) : g_wi (g_wi (mw7 M a0 a1 i) (a0 + 8) i (g_mi (mw7 M a0 a1 i) (a1 + 8) i)) (a0 + 9) i (g_mi (g_wi (mw7 M a0 a1 i) (a0 + 8) i (g_mi (mw7 M a0 a1 i) (a1 + 8) i)) (a1 + 9) i) = mw7 M a0 a1 j := by
  subst hj
  have e1 : g_mi (mw7 M a0 a1 i) (a1 + 8) i = g_mi M (a1 + 8) i := by
    unfold mw7; rw [mi_wm, if_neg (by omega), if_neg (by omega)]
  have e2 : g_mi (g_wi (mw7 M a0 a1 i) (a0 + 8) i (g_mi (mw7 M a0 a1 i) (a1 + 8) i)) (a1 + 9) i = g_mi M (a1 + 9) i := by
    rw [mi_wi, if_neg (by omega)]; unfold mw7; rw [mi_wm, if_neg (by omega), if_neg (by omega)]
  rw [e2, e1]
  have e : g_u2 (g_u2 (g_mi (mw7 M a0 a1 i)) (a0 + 8) i (g_mi M (a1 + 8) i)) (a0 + 9) i (g_mi M (a1 + 9) i) = g_mi (mw7 M a0 a1 (i + 1)) := by
    funext b j
    unfold g_u2 mw7
    rw [mi_wm, mi_wm]
    by_cases h1 : b = a0 + 8
    · subst h1
      rw [if_neg (by omega)]
      by_cases h2 : j = i
      · subst h2; rw [if_pos (by omega), if_pos (by omega)]
      · rw [if_neg (by omega)]
        by_cases h3 : j < i
        · rw [if_pos (by omega), if_pos (by omega)]
        · rw [if_neg (by omega), if_neg (by omega), if_neg (by omega), if_neg (by omega)]
    · by_cases h2 : b = a0 + 9
      · subst h2
        by_cases h2 : j = i
        · subst h2; rw [if_pos (by omega), if_neg (by omega), if_pos (by omega)]
        · by_cases h3 : j < i
          · rw [if_neg (by omega), if_neg (by omega), if_neg (by omega), if_pos (by omega), if_neg (by omega), if_pos (by omega)]
          · rw [if_neg (by omega), if_neg (by omega), if_neg (by omega), if_neg (by omega), if_neg (by omega), if_neg (by omega)]
      · rw [if_neg (by omega), if_neg (by omega), if_neg (by omega), if_neg (by omega), if_neg (by omega), if_neg (by omega)]
  show (_, _, g_u2 (g_u2 (g_mi (mw7 M a0 a1 i)) (a0 + 8) i (g_mi M (a1 + 8) i)) (a0 + 9) i (g_mi M (a1 + 9) i), _, _) = _
  rw [e]; rfl
def mq (M : gM) (a0 a1 i : Nat) : gM := (M.1, (fun b j => if b = a0 + 10 ∧ j < i then g_mr M (a1 + 10) j else g_mr M b j), M.2.2.1, M.2.2.2.1, M.2.2.2.2)
theorem mq_0 {M : gM} {a0 a1 : Nat} : M = mq M a0 a1 0 := by
  unfold mq
  have e : (fun b j => if b = a0 + 10 ∧ j < 0 then g_mr M (a1 + 10) j else g_mr M b j) = g_mr M := by
    funext b j; rw [if_neg (by omega)]
  rw [e]; rfl
theorem mq_k {M : gM} {a0 a1 i b : Nat} {v : Option (Nat × Nat)} (h : g_kd M b = v) : g_kd (mq M a0 a1 i) b = v := h
theorem mq_r {M : gM} {a0 a1 i b j : Nat} {v : Option Nat} (hb : b ≠ a0 + 10) (h : g_mr M b j = v) : g_mr (mq M a0 a1 i) b j = v := by
  show (if b = a0 + 10 ∧ j < i then g_mr M (a1 + 10) j else g_mr M b j) = v
  rw [if_neg (fun q => hb q.1)]; exact h
theorem mq_s {M : gM} {a0 a1 i j : Nat} (hne : a0 ≠ a1) (hj : i + 1 = j) : g_wr (mq M a0 a1 i) (a0 + 10) i (g_mr (mq M a0 a1 i) (a1 + 10) i) = mq M a0 a1 j := by
  subst hj
  rw [mq_r (b := a1 + 10) (by omega) rfl]
  have e : g_u2 (g_mr (mq M a0 a1 i)) (a0 + 10) i (g_mr M (a1 + 10) i) = g_mr (mq M a0 a1 (i + 1)) := by
    funext b j
    show (if b = a0 + 10 ∧ j = i then g_mr M (a1 + 10) i else (if b = a0 + 10 ∧ j < i then g_mr M (a1 + 10) j else g_mr M b j)) = (if b = a0 + 10 ∧ j < i + 1 then g_mr M (a1 + 10) j else g_mr M b j)
    by_cases h1 : b = a0 + 10
    · by_cases h2 : j = i
      · subst h2; rw [if_pos ⟨h1, rfl⟩, if_pos (by omega)]
      · rw [if_neg (by omega)]
        by_cases h3 : j < i
        · rw [if_pos (by omega), if_pos (by omega)]
        · rw [if_neg (by omega), if_neg (by omega)]
    · rw [if_neg (by omega), if_neg (by omega), if_neg (by omega)]
  show (_, g_u2 (g_mr (mq M a0 a1 i)) (a0 + 10) i (g_mr M (a1 + 10) i), _, _, _) = _
  rw [e]; rfl
theorem mq_o {M M2 : gM} {a0 a1 i j : Nat} (hS : Sm M M2) (hne : a0 ≠ a1) (hl : LwO M (a1 + 10)) : ∀ v, g_mr (mq M2 a0 a1 i) (a1 + 10) j = some v → g_kd (mq M2 a0 a1 i) v = some (6, 8) := fun v hv => by
  rw [mq_r (b := a1 + 10) (by omega) rfl, hS.2.1] at hv
  exact mq_k (hS.k (hl _ _ hv))
/-- a Whole copied: its ints, its row of laws -/
def mX7_p (M : gM) (a0 a1 : Nat) : gM := g_wi (g_wi (g_wi M a0 4 (g_mi M a1 4)) a0 5 (g_mi (g_wi M a0 4 (g_mi M a1 4)) a1 5)) a0 6 (g_mi (g_wi (g_wi M a0 4 (g_mi M a1 4)) a0 5 (g_mi (g_wi M a0 4 (g_mi M a1 4)) a1 5)) a1 6)
def mX7_copyFrom (M : gM) (a0 a1 : Nat) : gM := mX7_p (mq (mw7 (mX3_copyFrom M (a0 + 1) (a1 + 1)) a0 a1 6) a0 a1 6) a0 a1
set_option maxRecDepth 10000 in
set_option maxHeartbeats 8000000 in
theorem tX7_copyFrom {X : gX} {d mc ms : Nat} {Q : Option Value → gM → Prop} {M : gM} {a0 a1 : Nat} (s0 : Wh M a0) (s1 : Wh M a1) (hne : a0 + 20 < a1 ∨ a1 + 20 < a0) (hl : LwO M (a1 + 10)) (hE : EX3_copyFrom M (a0 + 1) (a1 + 1)) (hQ : Q none (mX7_copyFrom M a0 a1)) : Cn X (d + 3) mc ms kX7_copyFrom [.ref a0, .ref a1] M Q := by
  unfold mX7_copyFrom at hQ
  refine g_meth rfl rfl (Nat.le_of_ble_eq_true rfl) rfl ?_
  refine g_aload_n 0 1 dX7_copyFrom_0 rfl rfl ?_
  refine g_getR 4 (a0 + 1) dX7_copyFrom_1 rfl flX7_12 s0.1 s0.2.1 ?_
  refine g_aload_n 1 5 dX7_copyFrom_4 rfl rfl ?_
  refine g_getR 8 (a1 + 1) dX7_copyFrom_5 rfl flX7_12 s1.1 s1.2.1 ?_
  refine g_callV (mc1 := 0) (ms1 := 0) (b := a0 + 1) (rest := []) (av := [.ref (a1 + 1)]) kX3_copyFrom 11 dX7_copyFrom_8 rfl rfl mbX7_35 imX3_copyFrom seX3_copyFrom gcl3.1 s0.2.2.1.1 (Nat.le_of_ble_eq_true rfl) (Nat.zero_le _) (Nat.zero_le _) (tX3_copyFrom s0.2.2.1 s1.2.2.1 hE ?_)
  have hS : Sm M (mX3_copyFrom M (a0 + 1) (a1 + 1)) := jX3_copyFrom
  generalize mX3_copyFrom M (a0 + 1) (a1 + 1) = M1 at hS hQ ⊢
  show Go X (d + 2 + 1) mc ms kX7_copyFrom Q 11 [(0, .ref a0), (1, .ref a1)] [] M1 0 0
  refine g_iconst (0) 12 dX7_copyFrom_11 rfl rfl ?_
  refine g_istore_n 13 [(2, .int (0)), (0, .ref a0), (1, .ref a1)] dX7_copyFrom_12 rfl (Nat.le_of_ble_eq_true rfl) rfl ?_
  rw [show Go X (d + 2 + 1) mc ms kX7_copyFrom Q 13 [(2, .int (0)), (0, .ref a0), (1, .ref a1)] [] M1 0 0 = Go X (d + 2 + 1) mc ms kX7_copyFrom Q 13 [(2, .int (0)), (0, .ref a0), (1, .ref a1)] [] (mw7 M1 a0 a1 0) 0 0 from congrArg (fun q => Go X (d + 2 + 1) mc ms kX7_copyFrom Q 13 [(2, .int (0)), (0, .ref a0), (1, .ref a1)] [] q 0 0) w7_0]
  have hT : Sm M (mw7 M1 a0 a1 0) := Sm.tr hS Sm.wm
  refine g_iload_n 0 14 dX7_copyFrom_13 rfl rfl ?_
  refine g_bipush (6) 16 dX7_copyFrom_14 rfl rfl ?_
  refine g_icmp_ge 49 19 dX7_copyFrom_16 rfl rfl (fun q => absurd q (by decide)) (fun _ => ?_)
  refine g_aload_n 1 20 dX7_copyFrom_19 rfl rfl ?_
  refine g_getR 23 (a0 + 8) dX7_copyFrom_20 rfl flX7_18 (Sm.k hT s0.1) (Sm.r hT s0.2.2.2.1) ?_
  refine g_iload_n 0 24 dX7_copyFrom_23 rfl rfl ?_
  refine g_aload_n 2 25 dX7_copyFrom_24 rfl rfl ?_
  refine g_getR 28 (a1 + 8) dX7_copyFrom_25 rfl flX7_18 (Sm.k hT s1.1) (Sm.r hT s1.2.2.2.1) ?_
  refine g_iload_n 0 29 dX7_copyFrom_28 rfl rfl ?_
  refine h_iaload 30 0 dX7_copyFrom_29 rfl rfl (Sm.k hT s1.2.2.2.2.1) (vp_lit rfl) ?_
  refine h_iastore 31 0 dX7_copyFrom_30 rfl rfl (Sm.k hT s0.2.2.2.2.1) (vp_lit rfl) ?_
  refine g_aload_n 1 32 dX7_copyFrom_31 rfl rfl ?_
  refine g_getR 35 (a0 + 9) dX7_copyFrom_32 rfl flX7_22 (Sm.k (Sm.wi hT) s0.1) (Sm.r (Sm.wi hT) s0.2.2.2.2.2.1) ?_
  refine g_iload_n 0 36 dX7_copyFrom_35 rfl rfl ?_
  refine g_aload_n 2 37 dX7_copyFrom_36 rfl rfl ?_
  refine g_getR 40 (a1 + 9) dX7_copyFrom_37 rfl flX7_22 (Sm.k (Sm.wi hT) s1.1) (Sm.r (Sm.wi hT) s1.2.2.2.2.2.1) ?_
  refine g_iload_n 0 41 dX7_copyFrom_40 rfl rfl ?_
  refine h_iaload 42 0 dX7_copyFrom_41 rfl rfl (Sm.k (Sm.wi hT) s1.2.2.2.2.2.2.1) (vp_lit rfl) ?_
  refine h_iastore 43 0 dX7_copyFrom_42 rfl rfl (Sm.k (Sm.wi hT) s0.2.2.2.2.2.2.1) (vp_lit rfl) ?_
  rw [w7_s (j := 1) hne rfl]
  clear hT
  refine g_iinc (1) 0 46 [(2, .int (1)), (0, .ref a0), (1, .ref a1)] dX7_copyFrom_43 rfl rfl rfl (Nat.le_of_ble_eq_true rfl) rfl ?_
  refine g_goto 13 dX7_copyFrom_46 rfl ?_
  have hT : Sm M (mw7 M1 a0 a1 1) := Sm.tr hS Sm.wm
  refine g_iload_n 0 14 dX7_copyFrom_13 rfl rfl ?_
  refine g_bipush (6) 16 dX7_copyFrom_14 rfl rfl ?_
  refine g_icmp_ge 49 19 dX7_copyFrom_16 rfl rfl (fun q => absurd q (by decide)) (fun _ => ?_)
  refine g_aload_n 1 20 dX7_copyFrom_19 rfl rfl ?_
  refine g_getR 23 (a0 + 8) dX7_copyFrom_20 rfl flX7_18 (Sm.k hT s0.1) (Sm.r hT s0.2.2.2.1) ?_
  refine g_iload_n 0 24 dX7_copyFrom_23 rfl rfl ?_
  refine g_aload_n 2 25 dX7_copyFrom_24 rfl rfl ?_
  refine g_getR 28 (a1 + 8) dX7_copyFrom_25 rfl flX7_18 (Sm.k hT s1.1) (Sm.r hT s1.2.2.2.1) ?_
  refine g_iload_n 0 29 dX7_copyFrom_28 rfl rfl ?_
  refine h_iaload 30 1 dX7_copyFrom_29 rfl rfl (Sm.k hT s1.2.2.2.2.1) (vp_lit rfl) ?_
  refine h_iastore 31 1 dX7_copyFrom_30 rfl rfl (Sm.k hT s0.2.2.2.2.1) (vp_lit rfl) ?_
  refine g_aload_n 1 32 dX7_copyFrom_31 rfl rfl ?_
  refine g_getR 35 (a0 + 9) dX7_copyFrom_32 rfl flX7_22 (Sm.k (Sm.wi hT) s0.1) (Sm.r (Sm.wi hT) s0.2.2.2.2.2.1) ?_
  refine g_iload_n 0 36 dX7_copyFrom_35 rfl rfl ?_
  refine g_aload_n 2 37 dX7_copyFrom_36 rfl rfl ?_
  refine g_getR 40 (a1 + 9) dX7_copyFrom_37 rfl flX7_22 (Sm.k (Sm.wi hT) s1.1) (Sm.r (Sm.wi hT) s1.2.2.2.2.2.1) ?_
  refine g_iload_n 0 41 dX7_copyFrom_40 rfl rfl ?_
  refine h_iaload 42 1 dX7_copyFrom_41 rfl rfl (Sm.k (Sm.wi hT) s1.2.2.2.2.2.2.1) (vp_lit rfl) ?_
  refine h_iastore 43 1 dX7_copyFrom_42 rfl rfl (Sm.k (Sm.wi hT) s0.2.2.2.2.2.2.1) (vp_lit rfl) ?_
  rw [w7_s (j := 2) hne rfl]
  clear hT
  refine g_iinc (2) 0 46 [(2, .int (2)), (0, .ref a0), (1, .ref a1)] dX7_copyFrom_43 rfl rfl rfl (Nat.le_of_ble_eq_true rfl) rfl ?_
  refine g_goto 13 dX7_copyFrom_46 rfl ?_
  have hT : Sm M (mw7 M1 a0 a1 2) := Sm.tr hS Sm.wm
  refine g_iload_n 0 14 dX7_copyFrom_13 rfl rfl ?_
  refine g_bipush (6) 16 dX7_copyFrom_14 rfl rfl ?_
  refine g_icmp_ge 49 19 dX7_copyFrom_16 rfl rfl (fun q => absurd q (by decide)) (fun _ => ?_)
  refine g_aload_n 1 20 dX7_copyFrom_19 rfl rfl ?_
  refine g_getR 23 (a0 + 8) dX7_copyFrom_20 rfl flX7_18 (Sm.k hT s0.1) (Sm.r hT s0.2.2.2.1) ?_
  refine g_iload_n 0 24 dX7_copyFrom_23 rfl rfl ?_
  refine g_aload_n 2 25 dX7_copyFrom_24 rfl rfl ?_
  refine g_getR 28 (a1 + 8) dX7_copyFrom_25 rfl flX7_18 (Sm.k hT s1.1) (Sm.r hT s1.2.2.2.1) ?_
  refine g_iload_n 0 29 dX7_copyFrom_28 rfl rfl ?_
  refine h_iaload 30 2 dX7_copyFrom_29 rfl rfl (Sm.k hT s1.2.2.2.2.1) (vp_lit rfl) ?_
  refine h_iastore 31 2 dX7_copyFrom_30 rfl rfl (Sm.k hT s0.2.2.2.2.1) (vp_lit rfl) ?_
  refine g_aload_n 1 32 dX7_copyFrom_31 rfl rfl ?_
  refine g_getR 35 (a0 + 9) dX7_copyFrom_32 rfl flX7_22 (Sm.k (Sm.wi hT) s0.1) (Sm.r (Sm.wi hT) s0.2.2.2.2.2.1) ?_
  refine g_iload_n 0 36 dX7_copyFrom_35 rfl rfl ?_
  refine g_aload_n 2 37 dX7_copyFrom_36 rfl rfl ?_
  refine g_getR 40 (a1 + 9) dX7_copyFrom_37 rfl flX7_22 (Sm.k (Sm.wi hT) s1.1) (Sm.r (Sm.wi hT) s1.2.2.2.2.2.1) ?_
  refine g_iload_n 0 41 dX7_copyFrom_40 rfl rfl ?_
  refine h_iaload 42 2 dX7_copyFrom_41 rfl rfl (Sm.k (Sm.wi hT) s1.2.2.2.2.2.2.1) (vp_lit rfl) ?_
  refine h_iastore 43 2 dX7_copyFrom_42 rfl rfl (Sm.k (Sm.wi hT) s0.2.2.2.2.2.2.1) (vp_lit rfl) ?_
  rw [w7_s (j := 3) hne rfl]
  clear hT
  refine g_iinc (3) 0 46 [(2, .int (3)), (0, .ref a0), (1, .ref a1)] dX7_copyFrom_43 rfl rfl rfl (Nat.le_of_ble_eq_true rfl) rfl ?_
  refine g_goto 13 dX7_copyFrom_46 rfl ?_
  have hT : Sm M (mw7 M1 a0 a1 3) := Sm.tr hS Sm.wm
  refine g_iload_n 0 14 dX7_copyFrom_13 rfl rfl ?_
  refine g_bipush (6) 16 dX7_copyFrom_14 rfl rfl ?_
  refine g_icmp_ge 49 19 dX7_copyFrom_16 rfl rfl (fun q => absurd q (by decide)) (fun _ => ?_)
  refine g_aload_n 1 20 dX7_copyFrom_19 rfl rfl ?_
  refine g_getR 23 (a0 + 8) dX7_copyFrom_20 rfl flX7_18 (Sm.k hT s0.1) (Sm.r hT s0.2.2.2.1) ?_
  refine g_iload_n 0 24 dX7_copyFrom_23 rfl rfl ?_
  refine g_aload_n 2 25 dX7_copyFrom_24 rfl rfl ?_
  refine g_getR 28 (a1 + 8) dX7_copyFrom_25 rfl flX7_18 (Sm.k hT s1.1) (Sm.r hT s1.2.2.2.1) ?_
  refine g_iload_n 0 29 dX7_copyFrom_28 rfl rfl ?_
  refine h_iaload 30 3 dX7_copyFrom_29 rfl rfl (Sm.k hT s1.2.2.2.2.1) (vp_lit rfl) ?_
  refine h_iastore 31 3 dX7_copyFrom_30 rfl rfl (Sm.k hT s0.2.2.2.2.1) (vp_lit rfl) ?_
  refine g_aload_n 1 32 dX7_copyFrom_31 rfl rfl ?_
  refine g_getR 35 (a0 + 9) dX7_copyFrom_32 rfl flX7_22 (Sm.k (Sm.wi hT) s0.1) (Sm.r (Sm.wi hT) s0.2.2.2.2.2.1) ?_
  refine g_iload_n 0 36 dX7_copyFrom_35 rfl rfl ?_
  refine g_aload_n 2 37 dX7_copyFrom_36 rfl rfl ?_
  refine g_getR 40 (a1 + 9) dX7_copyFrom_37 rfl flX7_22 (Sm.k (Sm.wi hT) s1.1) (Sm.r (Sm.wi hT) s1.2.2.2.2.2.1) ?_
  refine g_iload_n 0 41 dX7_copyFrom_40 rfl rfl ?_
  refine h_iaload 42 3 dX7_copyFrom_41 rfl rfl (Sm.k (Sm.wi hT) s1.2.2.2.2.2.2.1) (vp_lit rfl) ?_
  refine h_iastore 43 3 dX7_copyFrom_42 rfl rfl (Sm.k (Sm.wi hT) s0.2.2.2.2.2.2.1) (vp_lit rfl) ?_
  rw [w7_s (j := 4) hne rfl]
  clear hT
  refine g_iinc (4) 0 46 [(2, .int (4)), (0, .ref a0), (1, .ref a1)] dX7_copyFrom_43 rfl rfl rfl (Nat.le_of_ble_eq_true rfl) rfl ?_
  refine g_goto 13 dX7_copyFrom_46 rfl ?_
  have hT : Sm M (mw7 M1 a0 a1 4) := Sm.tr hS Sm.wm
  refine g_iload_n 0 14 dX7_copyFrom_13 rfl rfl ?_
  refine g_bipush (6) 16 dX7_copyFrom_14 rfl rfl ?_
  refine g_icmp_ge 49 19 dX7_copyFrom_16 rfl rfl (fun q => absurd q (by decide)) (fun _ => ?_)
  refine g_aload_n 1 20 dX7_copyFrom_19 rfl rfl ?_
  refine g_getR 23 (a0 + 8) dX7_copyFrom_20 rfl flX7_18 (Sm.k hT s0.1) (Sm.r hT s0.2.2.2.1) ?_
  refine g_iload_n 0 24 dX7_copyFrom_23 rfl rfl ?_
  refine g_aload_n 2 25 dX7_copyFrom_24 rfl rfl ?_
  refine g_getR 28 (a1 + 8) dX7_copyFrom_25 rfl flX7_18 (Sm.k hT s1.1) (Sm.r hT s1.2.2.2.1) ?_
  refine g_iload_n 0 29 dX7_copyFrom_28 rfl rfl ?_
  refine h_iaload 30 4 dX7_copyFrom_29 rfl rfl (Sm.k hT s1.2.2.2.2.1) (vp_lit rfl) ?_
  refine h_iastore 31 4 dX7_copyFrom_30 rfl rfl (Sm.k hT s0.2.2.2.2.1) (vp_lit rfl) ?_
  refine g_aload_n 1 32 dX7_copyFrom_31 rfl rfl ?_
  refine g_getR 35 (a0 + 9) dX7_copyFrom_32 rfl flX7_22 (Sm.k (Sm.wi hT) s0.1) (Sm.r (Sm.wi hT) s0.2.2.2.2.2.1) ?_
  refine g_iload_n 0 36 dX7_copyFrom_35 rfl rfl ?_
  refine g_aload_n 2 37 dX7_copyFrom_36 rfl rfl ?_
  refine g_getR 40 (a1 + 9) dX7_copyFrom_37 rfl flX7_22 (Sm.k (Sm.wi hT) s1.1) (Sm.r (Sm.wi hT) s1.2.2.2.2.2.1) ?_
  refine g_iload_n 0 41 dX7_copyFrom_40 rfl rfl ?_
  refine h_iaload 42 4 dX7_copyFrom_41 rfl rfl (Sm.k (Sm.wi hT) s1.2.2.2.2.2.2.1) (vp_lit rfl) ?_
  refine h_iastore 43 4 dX7_copyFrom_42 rfl rfl (Sm.k (Sm.wi hT) s0.2.2.2.2.2.2.1) (vp_lit rfl) ?_
  rw [w7_s (j := 5) hne rfl]
  clear hT
  refine g_iinc (5) 0 46 [(2, .int (5)), (0, .ref a0), (1, .ref a1)] dX7_copyFrom_43 rfl rfl rfl (Nat.le_of_ble_eq_true rfl) rfl ?_
  refine g_goto 13 dX7_copyFrom_46 rfl ?_
  have hT : Sm M (mw7 M1 a0 a1 5) := Sm.tr hS Sm.wm
  refine g_iload_n 0 14 dX7_copyFrom_13 rfl rfl ?_
  refine g_bipush (6) 16 dX7_copyFrom_14 rfl rfl ?_
  refine g_icmp_ge 49 19 dX7_copyFrom_16 rfl rfl (fun q => absurd q (by decide)) (fun _ => ?_)
  refine g_aload_n 1 20 dX7_copyFrom_19 rfl rfl ?_
  refine g_getR 23 (a0 + 8) dX7_copyFrom_20 rfl flX7_18 (Sm.k hT s0.1) (Sm.r hT s0.2.2.2.1) ?_
  refine g_iload_n 0 24 dX7_copyFrom_23 rfl rfl ?_
  refine g_aload_n 2 25 dX7_copyFrom_24 rfl rfl ?_
  refine g_getR 28 (a1 + 8) dX7_copyFrom_25 rfl flX7_18 (Sm.k hT s1.1) (Sm.r hT s1.2.2.2.1) ?_
  refine g_iload_n 0 29 dX7_copyFrom_28 rfl rfl ?_
  refine h_iaload 30 5 dX7_copyFrom_29 rfl rfl (Sm.k hT s1.2.2.2.2.1) (vp_lit rfl) ?_
  refine h_iastore 31 5 dX7_copyFrom_30 rfl rfl (Sm.k hT s0.2.2.2.2.1) (vp_lit rfl) ?_
  refine g_aload_n 1 32 dX7_copyFrom_31 rfl rfl ?_
  refine g_getR 35 (a0 + 9) dX7_copyFrom_32 rfl flX7_22 (Sm.k (Sm.wi hT) s0.1) (Sm.r (Sm.wi hT) s0.2.2.2.2.2.1) ?_
  refine g_iload_n 0 36 dX7_copyFrom_35 rfl rfl ?_
  refine g_aload_n 2 37 dX7_copyFrom_36 rfl rfl ?_
  refine g_getR 40 (a1 + 9) dX7_copyFrom_37 rfl flX7_22 (Sm.k (Sm.wi hT) s1.1) (Sm.r (Sm.wi hT) s1.2.2.2.2.2.1) ?_
  refine g_iload_n 0 41 dX7_copyFrom_40 rfl rfl ?_
  refine h_iaload 42 5 dX7_copyFrom_41 rfl rfl (Sm.k (Sm.wi hT) s1.2.2.2.2.2.2.1) (vp_lit rfl) ?_
  refine h_iastore 43 5 dX7_copyFrom_42 rfl rfl (Sm.k (Sm.wi hT) s0.2.2.2.2.2.2.1) (vp_lit rfl) ?_
  rw [w7_s (j := 6) hne rfl]
  clear hT
  refine g_iinc (6) 0 46 [(2, .int (6)), (0, .ref a0), (1, .ref a1)] dX7_copyFrom_43 rfl rfl rfl (Nat.le_of_ble_eq_true rfl) rfl ?_
  refine g_goto 13 dX7_copyFrom_46 rfl ?_
  have hT : Sm M (mw7 M1 a0 a1 6) := Sm.tr hS Sm.wm
  generalize mw7 M1 a0 a1 6 = M2 at hT hQ ⊢
  refine g_iload_n 0 14 dX7_copyFrom_13 rfl rfl ?_
  refine g_bipush (6) 16 dX7_copyFrom_14 rfl rfl ?_
  refine g_icmp_ge 49 19 dX7_copyFrom_16 rfl rfl (fun _ => ?_) (fun q => absurd q (by decide))
  refine g_iconst (0) 50 dX7_copyFrom_49 rfl rfl ?_
  refine g_istore_n 51 [(2, .int (0)), (0, .ref a0), (1, .ref a1)] dX7_copyFrom_50 rfl (Nat.le_of_ble_eq_true rfl) rfl ?_
  rw [show Go X (d + 2 + 1) mc ms kX7_copyFrom Q 51 [(2, .int (0)), (0, .ref a0), (1, .ref a1)] [] M2 0 0 = Go X (d + 2 + 1) mc ms kX7_copyFrom Q 51 [(2, .int (0)), (0, .ref a0), (1, .ref a1)] [] (mq M2 a0 a1 0) 0 0 from congrArg (fun q => Go X (d + 2 + 1) mc ms kX7_copyFrom Q 51 [(2, .int (0)), (0, .ref a0), (1, .ref a1)] [] q 0 0) mq_0]
  refine g_iload_n 0 52 dX7_copyFrom_51 rfl rfl ?_
  refine g_bipush (6) 54 dX7_copyFrom_52 rfl rfl ?_
  refine g_icmp_ge 75 57 dX7_copyFrom_54 rfl rfl (fun q => absurd q (by decide)) (fun _ => ?_)
  refine g_aload_n 1 58 dX7_copyFrom_57 rfl rfl ?_
  refine g_getR 61 (a0 + 10) dX7_copyFrom_58 rfl flX7_27 (mq_k (hT.k s0.1)) (mq_r (by omega) (hT.r s0.2.2.2.2.2.2.2.1)) ?_
  refine g_iload_n 0 62 dX7_copyFrom_61 rfl rfl ?_
  refine g_aload_n 2 63 dX7_copyFrom_62 rfl rfl ?_
  refine g_getR 66 (a1 + 10) dX7_copyFrom_63 rfl flX7_27 (mq_k (hT.k s1.1)) (mq_r (by omega) (hT.r s1.2.2.2.2.2.2.2.1)) ?_
  refine g_iload_n 0 67 dX7_copyFrom_66 rfl rfl ?_
  refine h_aaload (t := 5) 68 0 dX7_copyFrom_67 rfl rfl (mq_k (hT.k s1.2.2.2.2.2.2.2.2)) (by decide) rfl (vp_lit rfl) ?_
  refine g_aastoreq (t := 5) (ci := 6) (N := 8) 69 dX7_copyFrom_68 rfl (mq_k (hT.k s0.2.2.2.2.2.2.2.2)) (by decide) rfl (mq_o hT (by omega) hl) gcl6.1 (vp_lit rfl) ?_
  rw [show (0 : Int32).toNatClampNeg = 0 from rfl, mq_s (j := 1) (by omega) rfl]
  refine g_iinc (1) 0 72 [(2, .int (1)), (0, .ref a0), (1, .ref a1)] dX7_copyFrom_69 rfl rfl rfl (Nat.le_of_ble_eq_true rfl) rfl ?_
  refine g_goto 51 dX7_copyFrom_72 rfl ?_
  refine g_iload_n 0 52 dX7_copyFrom_51 rfl rfl ?_
  refine g_bipush (6) 54 dX7_copyFrom_52 rfl rfl ?_
  refine g_icmp_ge 75 57 dX7_copyFrom_54 rfl rfl (fun q => absurd q (by decide)) (fun _ => ?_)
  refine g_aload_n 1 58 dX7_copyFrom_57 rfl rfl ?_
  refine g_getR 61 (a0 + 10) dX7_copyFrom_58 rfl flX7_27 (mq_k (hT.k s0.1)) (mq_r (by omega) (hT.r s0.2.2.2.2.2.2.2.1)) ?_
  refine g_iload_n 0 62 dX7_copyFrom_61 rfl rfl ?_
  refine g_aload_n 2 63 dX7_copyFrom_62 rfl rfl ?_
  refine g_getR 66 (a1 + 10) dX7_copyFrom_63 rfl flX7_27 (mq_k (hT.k s1.1)) (mq_r (by omega) (hT.r s1.2.2.2.2.2.2.2.1)) ?_
  refine g_iload_n 0 67 dX7_copyFrom_66 rfl rfl ?_
  refine h_aaload (t := 5) 68 1 dX7_copyFrom_67 rfl rfl (mq_k (hT.k s1.2.2.2.2.2.2.2.2)) (by decide) rfl (vp_lit rfl) ?_
  refine g_aastoreq (t := 5) (ci := 6) (N := 8) 69 dX7_copyFrom_68 rfl (mq_k (hT.k s0.2.2.2.2.2.2.2.2)) (by decide) rfl (mq_o hT (by omega) hl) gcl6.1 (vp_lit rfl) ?_
  rw [show (1 : Int32).toNatClampNeg = 1 from rfl, mq_s (j := 2) (by omega) rfl]
  refine g_iinc (2) 0 72 [(2, .int (2)), (0, .ref a0), (1, .ref a1)] dX7_copyFrom_69 rfl rfl rfl (Nat.le_of_ble_eq_true rfl) rfl ?_
  refine g_goto 51 dX7_copyFrom_72 rfl ?_
  refine g_iload_n 0 52 dX7_copyFrom_51 rfl rfl ?_
  refine g_bipush (6) 54 dX7_copyFrom_52 rfl rfl ?_
  refine g_icmp_ge 75 57 dX7_copyFrom_54 rfl rfl (fun q => absurd q (by decide)) (fun _ => ?_)
  refine g_aload_n 1 58 dX7_copyFrom_57 rfl rfl ?_
  refine g_getR 61 (a0 + 10) dX7_copyFrom_58 rfl flX7_27 (mq_k (hT.k s0.1)) (mq_r (by omega) (hT.r s0.2.2.2.2.2.2.2.1)) ?_
  refine g_iload_n 0 62 dX7_copyFrom_61 rfl rfl ?_
  refine g_aload_n 2 63 dX7_copyFrom_62 rfl rfl ?_
  refine g_getR 66 (a1 + 10) dX7_copyFrom_63 rfl flX7_27 (mq_k (hT.k s1.1)) (mq_r (by omega) (hT.r s1.2.2.2.2.2.2.2.1)) ?_
  refine g_iload_n 0 67 dX7_copyFrom_66 rfl rfl ?_
  refine h_aaload (t := 5) 68 2 dX7_copyFrom_67 rfl rfl (mq_k (hT.k s1.2.2.2.2.2.2.2.2)) (by decide) rfl (vp_lit rfl) ?_
  refine g_aastoreq (t := 5) (ci := 6) (N := 8) 69 dX7_copyFrom_68 rfl (mq_k (hT.k s0.2.2.2.2.2.2.2.2)) (by decide) rfl (mq_o hT (by omega) hl) gcl6.1 (vp_lit rfl) ?_
  rw [show (2 : Int32).toNatClampNeg = 2 from rfl, mq_s (j := 3) (by omega) rfl]
  refine g_iinc (3) 0 72 [(2, .int (3)), (0, .ref a0), (1, .ref a1)] dX7_copyFrom_69 rfl rfl rfl (Nat.le_of_ble_eq_true rfl) rfl ?_
  refine g_goto 51 dX7_copyFrom_72 rfl ?_
  refine g_iload_n 0 52 dX7_copyFrom_51 rfl rfl ?_
  refine g_bipush (6) 54 dX7_copyFrom_52 rfl rfl ?_
  refine g_icmp_ge 75 57 dX7_copyFrom_54 rfl rfl (fun q => absurd q (by decide)) (fun _ => ?_)
  refine g_aload_n 1 58 dX7_copyFrom_57 rfl rfl ?_
  refine g_getR 61 (a0 + 10) dX7_copyFrom_58 rfl flX7_27 (mq_k (hT.k s0.1)) (mq_r (by omega) (hT.r s0.2.2.2.2.2.2.2.1)) ?_
  refine g_iload_n 0 62 dX7_copyFrom_61 rfl rfl ?_
  refine g_aload_n 2 63 dX7_copyFrom_62 rfl rfl ?_
  refine g_getR 66 (a1 + 10) dX7_copyFrom_63 rfl flX7_27 (mq_k (hT.k s1.1)) (mq_r (by omega) (hT.r s1.2.2.2.2.2.2.2.1)) ?_
  refine g_iload_n 0 67 dX7_copyFrom_66 rfl rfl ?_
  refine h_aaload (t := 5) 68 3 dX7_copyFrom_67 rfl rfl (mq_k (hT.k s1.2.2.2.2.2.2.2.2)) (by decide) rfl (vp_lit rfl) ?_
  refine g_aastoreq (t := 5) (ci := 6) (N := 8) 69 dX7_copyFrom_68 rfl (mq_k (hT.k s0.2.2.2.2.2.2.2.2)) (by decide) rfl (mq_o hT (by omega) hl) gcl6.1 (vp_lit rfl) ?_
  rw [show (3 : Int32).toNatClampNeg = 3 from rfl, mq_s (j := 4) (by omega) rfl]
  refine g_iinc (4) 0 72 [(2, .int (4)), (0, .ref a0), (1, .ref a1)] dX7_copyFrom_69 rfl rfl rfl (Nat.le_of_ble_eq_true rfl) rfl ?_
  refine g_goto 51 dX7_copyFrom_72 rfl ?_
  refine g_iload_n 0 52 dX7_copyFrom_51 rfl rfl ?_
  refine g_bipush (6) 54 dX7_copyFrom_52 rfl rfl ?_
  refine g_icmp_ge 75 57 dX7_copyFrom_54 rfl rfl (fun q => absurd q (by decide)) (fun _ => ?_)
  refine g_aload_n 1 58 dX7_copyFrom_57 rfl rfl ?_
  refine g_getR 61 (a0 + 10) dX7_copyFrom_58 rfl flX7_27 (mq_k (hT.k s0.1)) (mq_r (by omega) (hT.r s0.2.2.2.2.2.2.2.1)) ?_
  refine g_iload_n 0 62 dX7_copyFrom_61 rfl rfl ?_
  refine g_aload_n 2 63 dX7_copyFrom_62 rfl rfl ?_
  refine g_getR 66 (a1 + 10) dX7_copyFrom_63 rfl flX7_27 (mq_k (hT.k s1.1)) (mq_r (by omega) (hT.r s1.2.2.2.2.2.2.2.1)) ?_
  refine g_iload_n 0 67 dX7_copyFrom_66 rfl rfl ?_
  refine h_aaload (t := 5) 68 4 dX7_copyFrom_67 rfl rfl (mq_k (hT.k s1.2.2.2.2.2.2.2.2)) (by decide) rfl (vp_lit rfl) ?_
  refine g_aastoreq (t := 5) (ci := 6) (N := 8) 69 dX7_copyFrom_68 rfl (mq_k (hT.k s0.2.2.2.2.2.2.2.2)) (by decide) rfl (mq_o hT (by omega) hl) gcl6.1 (vp_lit rfl) ?_
  rw [show (4 : Int32).toNatClampNeg = 4 from rfl, mq_s (j := 5) (by omega) rfl]
  refine g_iinc (5) 0 72 [(2, .int (5)), (0, .ref a0), (1, .ref a1)] dX7_copyFrom_69 rfl rfl rfl (Nat.le_of_ble_eq_true rfl) rfl ?_
  refine g_goto 51 dX7_copyFrom_72 rfl ?_
  refine g_iload_n 0 52 dX7_copyFrom_51 rfl rfl ?_
  refine g_bipush (6) 54 dX7_copyFrom_52 rfl rfl ?_
  refine g_icmp_ge 75 57 dX7_copyFrom_54 rfl rfl (fun q => absurd q (by decide)) (fun _ => ?_)
  refine g_aload_n 1 58 dX7_copyFrom_57 rfl rfl ?_
  refine g_getR 61 (a0 + 10) dX7_copyFrom_58 rfl flX7_27 (mq_k (hT.k s0.1)) (mq_r (by omega) (hT.r s0.2.2.2.2.2.2.2.1)) ?_
  refine g_iload_n 0 62 dX7_copyFrom_61 rfl rfl ?_
  refine g_aload_n 2 63 dX7_copyFrom_62 rfl rfl ?_
  refine g_getR 66 (a1 + 10) dX7_copyFrom_63 rfl flX7_27 (mq_k (hT.k s1.1)) (mq_r (by omega) (hT.r s1.2.2.2.2.2.2.2.1)) ?_
  refine g_iload_n 0 67 dX7_copyFrom_66 rfl rfl ?_
  refine h_aaload (t := 5) 68 5 dX7_copyFrom_67 rfl rfl (mq_k (hT.k s1.2.2.2.2.2.2.2.2)) (by decide) rfl (vp_lit rfl) ?_
  refine g_aastoreq (t := 5) (ci := 6) (N := 8) 69 dX7_copyFrom_68 rfl (mq_k (hT.k s0.2.2.2.2.2.2.2.2)) (by decide) rfl (mq_o hT (by omega) hl) gcl6.1 (vp_lit rfl) ?_
  rw [show (5 : Int32).toNatClampNeg = 5 from rfl, mq_s (j := 6) (by omega) rfl]
  refine g_iinc (6) 0 72 [(2, .int (6)), (0, .ref a0), (1, .ref a1)] dX7_copyFrom_69 rfl rfl rfl (Nat.le_of_ble_eq_true rfl) rfl ?_
  refine g_goto 51 dX7_copyFrom_72 rfl ?_
  refine g_iload_n 0 52 dX7_copyFrom_51 rfl rfl ?_
  refine g_bipush (6) 54 dX7_copyFrom_52 rfl rfl ?_
  refine g_icmp_ge 75 57 dX7_copyFrom_54 rfl rfl (fun _ => ?_) (fun q => absurd q (by decide))
  have k0 : g_kd (mq M2 a0 a1 6) a0 = some (7, 8) := mq_k (hT.k s0.1)
  have k1 : g_kd (mq M2 a0 a1 6) a1 = some (7, 8) := mq_k (hT.k s1.1)
  generalize mq M2 a0 a1 6 = M3 at k0 k1 hQ ⊢
  refine g_aload_n 1 76 dX7_copyFrom_75 rfl rfl ?_
  refine g_aload_n 2 77 dX7_copyFrom_76 rfl rfl ?_
  refine g_getI 80 dX7_copyFrom_77 rfl flX7_39 k1 ?_
  refine g_putI 83 dX7_copyFrom_80 rfl flX7_39 k0 ?_
  refine g_aload_n 1 84 dX7_copyFrom_83 rfl rfl ?_
  refine g_aload_n 2 85 dX7_copyFrom_84 rfl rfl ?_
  refine g_getI 88 dX7_copyFrom_85 rfl flX7_42 k1 ?_
  refine g_putI 91 dX7_copyFrom_88 rfl flX7_42 k0 ?_
  refine g_aload_n 1 92 dX7_copyFrom_91 rfl rfl ?_
  refine g_aload_n 2 93 dX7_copyFrom_92 rfl rfl ?_
  refine g_getI 96 dX7_copyFrom_93 rfl flX7_31 k1 ?_
  refine g_putI 99 dX7_copyFrom_96 rfl flX7_31 k0 ?_
  exact g_vret dX7_copyFrom_99 rfl (Nat.zero_le _) (Nat.zero_le _) hQ
theorem mq_sq {M : gM} {a0 a1 i n : Nat} (hk : g_kd M (a0 + 10) = some (105, n)) : Sq M (mq M a0 a1 i) := ⟨fun b v e => e, fun b j c m e hc => mq_r (fun q => by subst q; rw [hk] at e; cases e; exact hc rfl) rfl, Nat.le_refl _⟩
theorem jX7_copyFrom {M : gM} {a0 a1 : Nat} (s0 : Wh M a0) : Sq M (mX7_copyFrom M a0 a1) := by
  have h1 : Sm M (mw7 (mX3_copyFrom M (a0 + 1) (a1 + 1)) a0 a1 6) := Sm.tr jX3_copyFrom Sm.wm
  exact h1.sq.tr (mq_sq (h1.k s0.2.2.2.2.2.2.2.2))
/-- which image it is -/
def aIm (a0 : Nat) (x1 : Int32) : Option Nat := if x1 < 0 then none else if 2 ≤ x1 then none else if x1 = 0 then some (a0 + 307) else some (a0 + 318)
theorem x01 {x : Int32} (h1 : ¬ x < 0) (h2 : ¬ 2 ≤ x) (h3 : ¬ x = 0) : x = 1 := by
  rw [iZ_to x] at h1 h2 h3 ⊢
  have b1 := iZ_b1 x
  have b2 := iZ_b2 x
  rw [iZ_l0, iZ_lt (by omega) (by omega) (by omega) (by omega)] at h1
  rw [iZ_l2, iZ_le (by omega) (by omega) (by omega) (by omega)] at h2
  rw [iZ_l0, iZ_eq (by omega) (by omega) (by omega) (by omega)] at h3
  have : x.toInt = 1 := by omega
  rw [this]; rfl
theorem tX8_imageNumbered {X : gX} {d mc ms : Nat} {Q : Option Value → gM → Prop} {M : gM} {a0 : Nat} {x1 : Int32} (s0 : Ph M a0) (hQ : Q (some (va_rf (aIm a0 x1))) M) : Cn X d mc ms kX8_imageNumbered [.ref a0, .int x1] M Q := by
  unfold aIm at hQ
  refine g_meth rfl rfl (Nat.le_of_ble_eq_true rfl) rfl ?_
  refine g_iload_n 1 1 dX8_imageNumbered_0 rfl rfl ?_
  refine g_if_lt 18 4 dX8_imageNumbered_1 rfl rfl (fun c1 => ?_) (fun c1 => ?_)
  · rw [if_pos c1] at hQ
    refine g_null 19 dX8_imageNumbered_18 rfl ?_
    exact g_aret dX8_imageNumbered_19 rfl (Or.inl rfl) (Nat.zero_le _) (Nat.zero_le _) hQ
  · rw [if_neg c1] at hQ
    refine g_iload_n 1 5 dX8_imageNumbered_4 rfl rfl ?_
    refine g_iconst (2) 6 dX8_imageNumbered_5 rfl rfl ?_
    refine g_icmp_ge 18 9 dX8_imageNumbered_6 rfl rfl (fun c2 => ?_) (fun c2 => ?_)
    · rw [if_pos c2] at hQ
      refine g_null 19 dX8_imageNumbered_18 rfl ?_
      exact g_aret dX8_imageNumbered_19 rfl (Or.inl rfl) (Nat.zero_le _) (Nat.zero_le _) hQ
    · rw [if_neg c2] at hQ
      refine g_aload_n 0 10 dX8_imageNumbered_9 rfl rfl ?_
      refine g_getR 13 (a0 + 12) dX8_imageNumbered_10 rfl flX8_18 s0.1 s0.2.2.2.1 ?_
      refine g_iload_n 1 14 dX8_imageNumbered_13 rfl rfl ?_
      by_cases c3 : x1 = 0
      · rw [if_pos c3] at hQ
        subst c3
        refine h_aaloadR (t := 6) 15 0 dX8_imageNumbered_14 rfl rfl s0.2.2.2.2.1 (by decide) rfl (vp_lit rfl) s0.2.2.2.2.2.2.2.2.2.2.2.2.2.2.2.2.2.2.2.2.2.2.2.2.2.2.2.2.2.1 ?_
        refine g_goto 19 dX8_imageNumbered_15 rfl ?_
        exact g_aret dX8_imageNumbered_19 rfl (Or.inr ⟨_, rfl⟩) (Nat.zero_le _) (Nat.zero_le _) hQ
      · rw [if_neg c3] at hQ
        have c4 := x01 c1 c2 c3
        subst c4
        refine h_aaloadR (t := 6) 15 1 dX8_imageNumbered_14 rfl rfl s0.2.2.2.2.1 (by decide) rfl (vp_lit rfl) s0.2.2.2.2.2.2.2.2.2.2.2.2.2.2.2.2.2.2.2.2.2.2.2.2.2.2.2.2.2.2.2.1 ?_
        refine g_goto 19 dX8_imageNumbered_15 rfl ?_
        exact g_aret dX8_imageNumbered_19 rfl (Or.inr ⟨_, rfl⟩) (Nat.zero_le _) (Nat.zero_le _) hQ
theorem aIm_w {M : gM} {a0 b : Nat} {x1 : Int32} (s0 : Ph M a0) (h : aIm a0 x1 = some b) : Wh M b ∧ (b + 20 < a0 + 1 ∨ a0 + 1 + 20 < b) := by
  unfold aIm at h
  split at h
  · cases h
  · split at h
    · cases h
    · split at h
      · cases h; exact ⟨s0.2.2.2.2.2.2.2.2.2.2.2.2.2.2.2.2.2.2.2.2.2.2.2.2.2.2.2.2.2.2.1, by omega⟩
      · cases h; exact ⟨s0.2.2.2.2.2.2.2.2.2.2.2.2.2.2.2.2.2.2.2.2.2.2.2.2.2.2.2.2.2.2.2.2, by omega⟩
def fX8_image (a0 : Nat) (x1 : Int32) : Int32 := match aIm a0 x1 with
  | none => fX8_refuse a0 (-1)
  | some _ => 0
def mX8_image (M : gM) (a0 : Nat) (x1 : Int32) : gM := match aIm a0 x1 with
  | none => mX8_refuse M a0 (-1)
  | some b => mX8_accept (g_wi (mX7_copyFrom M b (a0 + 1)) b 7 1) a0 0
def EX8_image (M : gM) (a0 : Nat) (x1 : Int32) : Prop := ∀ b, aIm a0 x1 = some b → LwO M (a0 + 1 + 10) ∧ EX3_copyFrom M (b + 1) (a0 + 1 + 1)
theorem tX8_image {X : gX} {d mc ms : Nat} {Q : Option Value → gM → Prop} {M : gM} {a0 : Nat} {x1 : Int32} (s0 : Ph M a0) (hE : EX8_image M a0 x1) (hQ : Q (some (.int (fX8_image a0 x1))) (mX8_image M a0 x1)) : Cn X (d + 4) mc ms kX8_image [.ref a0, .int x1] M Q := by
  unfold fX8_image mX8_image at hQ
  refine g_meth rfl rfl (Nat.le_of_ble_eq_true rfl) rfl ?_
  refine g_aload_n 0 1 dX8_image_0 rfl rfl ?_
  refine g_iload_n 1 2 dX8_image_1 rfl rfl ?_
  refine g_callV (mc1 := 0) (ms1 := 0) (b := a0) (rest := []) (av := [.int x1]) kX8_imageNumbered 5 dX8_image_2 rfl rfl mbX8_327 imX8_imageNumbered seX8_imageNumbered gcl8.1 s0.1 (Nat.le_of_ble_eq_true rfl) (Nat.zero_le _) (Nat.zero_le _) (tX8_imageNumbered s0 ?_)
  show Go X (d + 3 + 1) mc ms kX8_image Q 5 [(0, .ref a0), (1, .int x1)] [va_rf (aIm a0 x1)] M 0 0
  cases hi : aIm a0 x1 with
  | none =>
    rw [hi] at hQ
    refine g_astore_nq (r := none) 6 [(2, va_rf none), (0, .ref a0), (1, .int x1)] dX8_image_5 rfl (Nat.le_of_ble_eq_true rfl) rfl ?_
    refine g_aload_nq (r := none) 0 7 dX8_image_6 rfl rfl ?_
    refine g_ifnonnullq (r := none) 16 10 dX8_image_7 rfl rfl (fun _ => ?_) (fun q => absurd rfl q)
    refine g_aload_n 1 11 dX8_image_10 rfl rfl ?_
    refine g_iconst (-1) 12 dX8_image_11 rfl rfl ?_
    refine g_callV (mc1 := 0) (ms1 := 0) (b := a0) (rest := []) (av := [.int (-1)]) kX8_refuse 15 dX8_image_12 rfl rfl mbX8_146 imX8_refuse seX8_refuse gcl8.1 s0.1 (Nat.le_of_ble_eq_true rfl) (Nat.zero_le _) (Nat.zero_le _) (tX8_refuse s0 ?_)
    exact g_iret dX8_image_15 rfl (Nat.zero_le _) (Nat.zero_le _) hQ
  | some b =>
    rw [hi] at hQ
    obtain ⟨sb, hb⟩ := aIm_w s0 hi
    obtain ⟨hl, he⟩ := hE b hi
    replace hQ : Q (some (.int 0)) (mX8_accept (g_wi (mX7_copyFrom M b (a0 + 1)) b 7 1) a0 0) := hQ
    refine g_astore_nq (r := some b) 6 [(2, .ref b), (0, .ref a0), (1, .int x1)] dX8_image_5 rfl (Nat.le_of_ble_eq_true rfl) rfl ?_
    refine g_aload_n 0 7 dX8_image_6 rfl rfl ?_
    refine g_ifnonnull 16 dX8_image_7 rfl ?_
    refine g_aload_n 0 17 dX8_image_16 rfl rfl ?_
    refine g_aload_n 1 18 dX8_image_17 rfl rfl ?_
    refine g_getR 21 (a0 + 1) dX8_image_18 rfl flX8_14 s0.1 s0.2.1 ?_
    refine g_callV (mc1 := 0) (ms1 := 0) (b := b) (rest := []) (av := [.ref (a0 + 1)]) kX7_copyFrom 24 dX8_image_21 rfl rfl mbX8_331 imX7_copyFrom seX7_copyFrom gcl7.1 sb.1 (Nat.le_of_ble_eq_true rfl) (Nat.zero_le _) (Nat.zero_le _) (tX7_copyFrom sb s0.2.2.1 hb hl he ?_)
    have hS : Sq M (mX7_copyFrom M b (a0 + 1)) := jX7_copyFrom sb
    generalize mX7_copyFrom M b (a0 + 1) = M1 at hS hQ ⊢
    show Go X (d + 3 + 1) mc ms kX8_image Q 24 [(2, .ref b), (0, .ref a0), (1, .int x1)] [] M1 0 0
    refine g_aload_n 0 25 dX8_image_24 rfl rfl ?_
    refine g_iconst (1) 26 dX8_image_25 rfl rfl ?_
    refine g_putZ 29 dX8_image_26 rfl flX8_334 (hS.k sb.1) (by decide) ?_
    refine g_aload_n 1 30 dX8_image_29 rfl rfl ?_
    refine g_iconst (0) 31 dX8_image_30 rfl rfl ?_
    refine g_callV (mc1 := 0) (ms1 := 0) (b := a0) (rest := []) (av := [.int (0)]) kX8_accept 34 dX8_image_31 rfl rfl mbX8_155 imX8_accept seX8_accept gcl8.1 (hS.k s0.1) (Nat.le_of_ble_eq_true rfl) (Nat.zero_le _) (Nat.zero_le _) (tX8_accept (Ph.sm (Sm.wi Sm.rf) (Ph.sq hS s0)) ?_)
    exact g_iret dX8_image_34 rfl (Nat.zero_le _) (Nat.zero_le _) hQ
def fX8_back (M : gM) (a0 : Nat) (x1 : Int32) : Int32 := match aIm a0 x1 with
  | none => fX8_refuse a0 (-1)
  | some b => if g_mi M b 7 = 0 then fX8_refuse a0 (-2) else 0
def mX8_back (M : gM) (a0 : Nat) (x1 : Int32) : gM := match aIm a0 x1 with
  | none => mX8_refuse M a0 (-1)
  | some b => if g_mi M b 7 = 0 then mX8_refuse M a0 (-2) else mX8_accept (mX0_clear (mX7_copyFrom M (a0 + 1) b) (a0 + 13)) a0 0
def EX8_back (M : gM) (a0 : Nat) (x1 : Int32) : Prop := ∀ b, aIm a0 x1 = some b → ¬ g_mi M b 7 = 0 → LwO M (b + 10) ∧ EX3_copyFrom M (a0 + 1 + 1) (b + 1)
theorem tX8_back {X : gX} {d mc ms : Nat} {Q : Option Value → gM → Prop} {M : gM} {a0 : Nat} {x1 : Int32} (s0 : Ph M a0) (hE : EX8_back M a0 x1) (hQ : Q (some (.int (fX8_back M a0 x1))) (mX8_back M a0 x1)) : Cn X (d + 4) mc ms kX8_back [.ref a0, .int x1] M Q := by
  unfold fX8_back mX8_back at hQ
  refine g_meth rfl rfl (Nat.le_of_ble_eq_true rfl) rfl ?_
  refine g_aload_n 0 1 dX8_back_0 rfl rfl ?_
  refine g_iload_n 1 2 dX8_back_1 rfl rfl ?_
  refine g_callV (mc1 := 0) (ms1 := 0) (b := a0) (rest := []) (av := [.int x1]) kX8_imageNumbered 5 dX8_back_2 rfl rfl mbX8_327 imX8_imageNumbered seX8_imageNumbered gcl8.1 s0.1 (Nat.le_of_ble_eq_true rfl) (Nat.zero_le _) (Nat.zero_le _) (tX8_imageNumbered s0 ?_)
  show Go X (d + 3 + 1) mc ms kX8_back Q 5 [(0, .ref a0), (1, .int x1)] [va_rf (aIm a0 x1)] M 0 0
  cases hi : aIm a0 x1 with
  | none =>
    rw [hi] at hQ
    refine g_astore_nq (r := none) 6 [(2, va_rf none), (0, .ref a0), (1, .int x1)] dX8_back_5 rfl (Nat.le_of_ble_eq_true rfl) rfl ?_
    refine g_aload_nq (r := none) 0 7 dX8_back_6 rfl rfl ?_
    refine g_ifnonnullq (r := none) 16 10 dX8_back_7 rfl rfl (fun _ => ?_) (fun q => absurd rfl q)
    refine g_aload_n 1 11 dX8_back_10 rfl rfl ?_
    refine g_iconst (-1) 12 dX8_back_11 rfl rfl ?_
    refine g_callV (mc1 := 0) (ms1 := 0) (b := a0) (rest := []) (av := [.int (-1)]) kX8_refuse 15 dX8_back_12 rfl rfl mbX8_146 imX8_refuse seX8_refuse gcl8.1 s0.1 (Nat.le_of_ble_eq_true rfl) (Nat.zero_le _) (Nat.zero_le _) (tX8_refuse s0 ?_)
    exact g_iret dX8_back_15 rfl (Nat.zero_le _) (Nat.zero_le _) hQ
  | some b =>
    rw [hi] at hQ
    obtain ⟨sb, hb⟩ := aIm_w s0 hi
    refine g_astore_nq (r := some b) 6 [(2, .ref b), (0, .ref a0), (1, .int x1)] dX8_back_5 rfl (Nat.le_of_ble_eq_true rfl) rfl ?_
    refine g_aload_n 0 7 dX8_back_6 rfl rfl ?_
    refine g_ifnonnull 16 dX8_back_7 rfl ?_
    refine g_aload_n 0 17 dX8_back_16 rfl rfl ?_
    refine g_getI 20 dX8_back_17 rfl flX8_334 sb.1 ?_
    refine g_if_ne 30 23 dX8_back_20 rfl rfl (fun c1 => ?_) (fun c1 => ?_)
    · have c2 : ¬ g_mi M b 7 = 0 := c1
      simp only [if_neg c2] at hQ
      obtain ⟨hl, he⟩ := hE b hi c2
      refine g_aload_n 1 31 dX8_back_30 rfl rfl ?_
      refine g_getR 34 (a0 + 1) dX8_back_31 rfl flX8_14 s0.1 s0.2.1 ?_
      refine g_aload_n 0 35 dX8_back_34 rfl rfl ?_
      refine g_callV (mc1 := 0) (ms1 := 0) (b := a0 + 1) (rest := []) (av := [.ref b]) kX7_copyFrom 38 dX8_back_35 rfl rfl mbX8_331 imX7_copyFrom seX7_copyFrom gcl7.1 s0.2.2.1.1 (Nat.le_of_ble_eq_true rfl) (Nat.zero_le _) (Nat.zero_le _) (tX7_copyFrom s0.2.2.1 sb (by omega) hl he ?_)
      have hS : Sq M (mX7_copyFrom M (a0 + 1) b) := jX7_copyFrom s0.2.2.1
      generalize mX7_copyFrom M (a0 + 1) b = M1 at hS hQ ⊢
      show Go X (d + 3 + 1) mc ms kX8_back Q 38 [(2, .ref b), (0, .ref a0), (1, .int x1)] [] M1 0 0
      have s1 : Ph M1 a0 := Ph.sq hS s0
      refine g_aload_n 1 39 dX8_back_38 rfl rfl ?_
      refine g_getR 42 (a0 + 13) dX8_back_39 rfl flX8_25 s1.1 s1.2.2.2.2.2.1 ?_
      refine g_callV (mc1 := 0) (ms1 := 0) (b := a0 + 13) (rest := []) (av := []) kX0_clear 45 dX8_back_42 rfl rfl mbX8_152 imX0_clear seX0_clear gcl0.1 s1.2.2.2.2.2.2.1.1 (Nat.le_of_ble_eq_true rfl) (Nat.zero_le _) (Nat.zero_le _) (tX0_clear s1.2.2.2.2.2.2.1 ?_)
      show Go X (d + 3 + 1) mc ms kX8_back Q 45 [(2, .ref b), (0, .ref a0), (1, .int x1)] [] (mX0_clear M1 (a0 + 13)) 0 0
      refine g_aload_n 1 46 dX8_back_45 rfl rfl ?_
      refine g_iconst (0) 47 dX8_back_46 rfl rfl ?_
      refine g_callV (mc1 := 0) (ms1 := 0) (b := a0) (rest := []) (av := [.int (0)]) kX8_accept 50 dX8_back_47 rfl rfl mbX8_155 imX8_accept seX8_accept gcl8.1 (Sm.k jX0_clear s1.1) (Nat.le_of_ble_eq_true rfl) (Nat.zero_le _) (Nat.zero_le _) (tX8_accept (Ph.sm jX0_clear s1) ?_)
      exact g_iret dX8_back_50 rfl (Nat.zero_le _) (Nat.zero_le _) hQ
    · have c2 : g_mi M b 7 = 0 := c1
      simp only [if_pos c2] at hQ
      refine g_aload_n 1 24 dX8_back_23 rfl rfl ?_
      refine g_bipush (-2) 26 dX8_back_24 rfl rfl ?_
      refine g_callV (mc1 := 0) (ms1 := 0) (b := a0) (rest := []) (av := [.int (-2)]) kX8_refuse 29 dX8_back_26 rfl rfl mbX8_146 imX8_refuse seX8_refuse gcl8.1 s0.1 (Nat.le_of_ble_eq_true rfl) (Nat.zero_le _) (Nat.zero_le _) (tX8_refuse s0 ?_)
      exact g_iret dX8_back_29 rfl (Nat.zero_le _) (Nat.zero_le _) hQ
theorem Tx.bl {M M2 : gM} {a n m : Nat} (h : Bl a (a + 7) M M2) (e : Tx M a n m) : Tx M2 a n m := ⟨h.k (by omega) (by omega) e.1, h.r (by omega) (by omega) e.2.1, h.k (by omega) (by omega) e.2.2.1, h.r (by omega) (by omega) e.2.2.2.1, h.k (by omega) (by omega) e.2.2.2.2.1, h.r (by omega) (by omega) e.2.2.2.2.2.1, h.k (by omega) (by omega) e.2.2.2.2.2.2.1, h.r (by omega) (by omega) e.2.2.2.2.2.2.2.1, h.k (by omega) (by omega) e.2.2.2.2.2.2.2.2.1, h.r (by omega) (by omega) e.2.2.2.2.2.2.2.2.2.1, h.k (by omega) (by omega) e.2.2.2.2.2.2.2.2.2.2.1, h.r (by omega) (by omega) e.2.2.2.2.2.2.2.2.2.2.2.1, h.k (by omega) (by omega) e.2.2.2.2.2.2.2.2.2.2.2.2⟩
theorem Tx.g6 {M : gM} {a n m : Nat} (e : G6 M a n m) : Tx M a n m := ⟨e.1, e.2.1.1 0, e.2.2.1.1, e.2.1.1 1, e.2.2.2.1.1, e.2.1.1 2, e.2.2.2.2.1.1, e.2.1.1 3, e.2.2.2.2.2.1.1, e.2.1.1 4, e.2.2.2.2.2.2.1.1, e.2.1.1 5, e.2.2.2.2.2.2.2.1⟩
theorem cp_o {M : gM} {a b sp dp n c i : Nat} (h : c ≠ b) : g_mi (g_cp M a b sp dp n) c i = g_mi M c i := by rw [mi_cp, if_neg h]
theorem cp_s {M : gM} {a b n j : Nat} (h : j < n) : g_mi (g_cp M a b 0 0 n) b j = g_mi M a j := by rw [mi_cp, if_pos rfl, if_pos (by omega)]; rw [show 0 + (j - 0) = j by omega]
theorem wi_o {M : gM} {a i c j : Nat} {v : Int32} (h : c ≠ a) : g_mi (g_wi M a i v) c j = g_mi M c j := by rw [mi_wi, if_neg (fun q => h q.1)]
/-- the text b is what the text a0 was, n clauses, m steps of it -/
def TxC (M M2 : gM) (a0 b n m : Nat) (x y : Int32) : Prop := (∀ i, 1 ≤ i → i ≤ 4 → ∀ j, j < n → g_mi M2 (b + i) j = g_mi M (a0 + i) j) ∧ (∀ i, 5 ≤ i → i ≤ 6 → ∀ j, j < m → g_mi M2 (b + i) j = g_mi M (a0 + i) j) ∧ g_mi M2 b 6 = x ∧ g_mi M2 b 7 = y
def m_trim (M : gM) (a0 b n m : Nat) (x y : Int32) : gM := g_wi (g_wi (g_cp (g_cp (g_cp (g_cp (g_cp (g_cp M (a0 + 1) (b + 1) 0 0 n) (a0 + 2) (b + 2) 0 0 n) (a0 + 3) (b + 3) 0 0 n) (a0 + 4) (b + 4) 0 0 n) (a0 + 5) (b + 5) 0 0 m) (a0 + 6) (b + 6) 0 0 m) b 6 x) b 7 y
theorem trim_fr {M M2 : gM} {a0 b n m : Nat} {x y : Int32} (hF : Fr b M M2) : Fr b M (m_trim M2 a0 b n m x y) := fun c hc => by
  obtain ⟨x1, x2, x3, x4⟩ := hF c hc
  refine ⟨x1, x2, ?_, x4⟩
  rw [← x3]
  funext j
  unfold m_trim
  rw [wi_o (by omega), wi_o (by omega), cp_o (by omega), cp_o (by omega), cp_o (by omega), cp_o (by omega), cp_o (by omega), cp_o (by omega)]
theorem trim_c {M M1 M2 : gM} {a0 b n m : Nat} {x y : Int32} (hf : Fr b M1 M2) (hF : Fr b M M2) (ha : a0 + 6 < b) : TxC M (m_trim M2 a0 b n m x y) a0 b n m x y := by
  have q : ∀ i, i ≤ 6 → ∀ j, g_mi M2 (a0 + i) j = g_mi M (a0 + i) j := fun i hi j => congrFun (hF (a0 + i) (by omega)).2.2.1 j
  refine ⟨fun i h1 h2 j hj => ?_, fun i h1 h2 j hj => ?_, ?_, ?_⟩
  · rw [← q i (by omega) j]
    unfold m_trim
    rcases (by omega : i = 1 ∨ i = 2 ∨ i = 3 ∨ i = 4) with e | e | e | e <;> subst e
    · rw [wi_o (by omega), wi_o (by omega), cp_o (by omega), cp_o (by omega), cp_o (by omega), cp_o (by omega), cp_o (by omega), cp_s hj]
    · rw [wi_o (by omega), wi_o (by omega), cp_o (by omega), cp_o (by omega), cp_o (by omega), cp_o (by omega), cp_s hj, cp_o (by omega)]
    · rw [wi_o (by omega), wi_o (by omega), cp_o (by omega), cp_o (by omega), cp_o (by omega), cp_s hj, cp_o (by omega), cp_o (by omega)]
    · rw [wi_o (by omega), wi_o (by omega), cp_o (by omega), cp_o (by omega), cp_s hj, cp_o (by omega), cp_o (by omega), cp_o (by omega)]
  · rw [← q i (by omega) j]
    unfold m_trim
    rcases (by omega : i = 5 ∨ i = 6) with e | e <;> subst e
    · rw [wi_o (by omega), wi_o (by omega), cp_o (by omega), cp_s hj, cp_o (by omega), cp_o (by omega), cp_o (by omega), cp_o (by omega)]
    · rw [wi_o (by omega), wi_o (by omega), cp_s hj, cp_o (by omega), cp_o (by omega), cp_o (by omega), cp_o (by omega), cp_o (by omega)]
  · unfold m_trim; rw [mi_wi, if_neg (by omega), mi_wi, if_pos ⟨rfl, rfl⟩]
  · unfold m_trim; rw [mi_wi, if_pos ⟨rfl, rfl⟩]
set_option maxRecDepth 10000 in
set_option maxHeartbeats 4000000 in
theorem tX6_trimmed {X : gX} {d : Nat} {Q : Option Value → gM → Prop} {M : gM} {a0 b n0 m0 n m : Nat} {x y : Int32} (s0 : Tx M a0 n0 m0) (hlt : ∀ c, g_kd M c ≠ none → c < b) (hb : g_nx M = b) (hx : g_mi M a0 6 = x) (hy : g_mi M a0 7 = y) (hxn : x.toNatClampNeg = n) (hym : y.toNatClampNeg = m) (gx : ¬ x < 0) (gy : ¬ y < 0) (bn : n ≤ 1000000) (bm : m ≤ 1000000) (ln : n ≤ n0) (lm : m ≤ m0) (hQ : ∀ M2, Fr b M M2 → g_nx M2 = b + 7 → Tx M2 b n m → TxC M M2 a0 b n m x y → Q (some (.ref b)) M2) : Cn X (d + 2) 7 (4 * n + 2 * m + 8) kX6_trimmed [.ref a0] M Q := by
  refine g_meth rfl rfl (Nat.le_of_ble_eq_true rfl) rfl ?_
  refine i_newo 3 b dX6_trimmed_0 rfl gcl6 q3_176 q1_229 q1_9 (Nat.le_of_ble_eq_true rfl) (by omega) hb ?_
  have hA : Ar (g_new M 6 8) b 6 8 := Ar.mk hb
  have hn : g_nx (g_new M 6 8) = b + 1 := nn hb
  have hF : Fr b M (g_new M 6 8) := Fr.rf.new hb (Nat.le_refl b)
  have st : Tx (g_new M 6 8) a0 n0 m0 := Tx.sq (Sq.fr hF hlt (by rw [hn, hb]; omega)) s0
  have ha : a0 + 6 < b := hlt (a0 + 6) (by rw [s0.2.2.2.2.2.2.2.2.2.2.2.2]; simp)
  have e6 : g_mi (g_new M 6 8) a0 6 = x := by rw [← hx]; exact congrFun (hF a0 (by omega)).2.2.1 6
  have e7 : g_mi (g_new M 6 8) a0 7 = y := by rw [← hy]; exact congrFun (hF a0 (by omega)).2.2.1 7
  generalize g_new M 6 8 = M1 at hA hn hF st e6 e7 ⊢
  refine g_dup 4 dX6_trimmed_3 rfl rfl ?_
  refine g_aload_n 0 5 dX6_trimmed_4 rfl rfl ?_
  refine g_getI 8 dX6_trimmed_5 rfl flX6_36 st.1 ?_
  rw [e6]
  refine g_aload_n 0 9 dX6_trimmed_8 rfl rfl ?_
  refine g_getI 12 dX6_trimmed_9 rfl flX6_40 st.1 ?_
  rw [e7]
  refine g_callI (mc1 := 6) (ms1 := 4 * n + 2 * m) (b := b) (rest := [.ref b]) (av := [.int x, .int y]) kX6_init 15 dX6_trimmed_12 rfl rfl mbX6_43 imX6_init rfl rfl (Nat.le_of_ble_eq_true rfl) (Nat.le_of_ble_eq_true rfl) (by omega) (iX6_init hxn hym gx gy bn bm hA hn ?_)
  intro M2 hf hn2 hg
  show Go X (d + 1 + 1) 7 (4 * n + 2 * m + 8) kX6_trimmed Q 15 [(0, .ref a0)] [.ref b] M2 7 (0 + 8 + (4 * n + 2 * m))
  have s2 : Tx M2 a0 n0 m0 := Tx.bl (Bl.fr hf (by omega)) st
  have hF2 : Fr b M M2 := hF.tr hf (Nat.le_refl b)
  have t2 : Tx M2 b n m := Tx.g6 hg
  have e6 : g_mi M2 a0 6 = x := by rw [← e6]; exact congrFun (hf a0 (by omega)).2.2.1 6
  have e7 : g_mi M2 a0 7 = y := by rw [← e7]; exact congrFun (hf a0 (by omega)).2.2.1 7
  refine g_astore_n 16 [(1, .ref b), (0, .ref a0)] dX6_trimmed_15 rfl (Nat.le_of_ble_eq_true rfl) rfl ?_
  have c0 : Sm M2 M2 := Sm.rf
  refine g_aload_n 1 17 dX6_trimmed_16 rfl rfl ?_
  refine g_getR 20 (a0 + 1) dX6_trimmed_17 rfl flX6_15 (c0.k s2.1) (c0.r s2.2.1) ?_
  refine g_iconst (0) 21 dX6_trimmed_20 rfl rfl ?_
  refine g_aload_n 0 22 dX6_trimmed_21 rfl rfl ?_
  refine g_getR 25 (b + 1) dX6_trimmed_22 rfl flX6_15 (c0.k t2.1) (c0.r t2.2.1) ?_
  refine g_iconst (0) 26 dX6_trimmed_25 rfl rfl ?_
  refine g_aload_n 1 27 dX6_trimmed_26 rfl rfl ?_
  refine g_getI 30 dX6_trimmed_27 rfl flX6_36 (c0.k s2.1) ?_
  rw [e6]
  refine g_copy 33 dX6_trimmed_30 rfl q3_178 q3_180 q3_179 q1_17 (c0.k s2.2.2.1) (c0.k t2.2.2.1) (by decide) (by decide) gx (by rw [hxn]; show 0 + _ ≤ _; omega) (by rw [hxn]; show 0 + _ ≤ _; omega) (Nat.le_of_ble_eq_true rfl) ?_
  rw [hxn, show ((0 : Int32).toNatClampNeg) = 0 from rfl]
  have e6 := (cp_o (a := a0 + 1) (b := b + 1) (sp := 0) (dp := 0) (n := n) (c := a0) (i := 6) (by omega)).trans e6
  have e7 := (cp_o (a := a0 + 1) (b := b + 1) (sp := 0) (dp := 0) (n := n) (c := a0) (i := 7) (by omega)).trans e7
  replace c0 := Sm.cp (a := a0 + 1) (b := b + 1) (sp := 0) (dp := 0) (n := n) c0
  refine g_aload_n 1 34 dX6_trimmed_33 rfl rfl ?_
  refine g_getR 37 (a0 + 2) dX6_trimmed_34 rfl flX6_21 (c0.k s2.1) (c0.r s2.2.2.2.1) ?_
  refine g_iconst (0) 38 dX6_trimmed_37 rfl rfl ?_
  refine g_aload_n 0 39 dX6_trimmed_38 rfl rfl ?_
  refine g_getR 42 (b + 2) dX6_trimmed_39 rfl flX6_21 (c0.k t2.1) (c0.r t2.2.2.2.1) ?_
  refine g_iconst (0) 43 dX6_trimmed_42 rfl rfl ?_
  refine g_aload_n 1 44 dX6_trimmed_43 rfl rfl ?_
  refine g_getI 47 dX6_trimmed_44 rfl flX6_36 (c0.k s2.1) ?_
  rw [e6]
  refine g_copy 50 dX6_trimmed_47 rfl q3_178 q3_180 q3_179 q1_17 (c0.k s2.2.2.2.2.1) (c0.k t2.2.2.2.2.1) (by decide) (by decide) gx (by rw [hxn]; show 0 + _ ≤ _; omega) (by rw [hxn]; show 0 + _ ≤ _; omega) (Nat.le_of_ble_eq_true rfl) ?_
  rw [hxn, show ((0 : Int32).toNatClampNeg) = 0 from rfl]
  have e6 := (cp_o (a := a0 + 2) (b := b + 2) (sp := 0) (dp := 0) (n := n) (c := a0) (i := 6) (by omega)).trans e6
  have e7 := (cp_o (a := a0 + 2) (b := b + 2) (sp := 0) (dp := 0) (n := n) (c := a0) (i := 7) (by omega)).trans e7
  replace c0 := Sm.cp (a := a0 + 2) (b := b + 2) (sp := 0) (dp := 0) (n := n) c0
  refine g_aload_n 1 51 dX6_trimmed_50 rfl rfl ?_
  refine g_getR 54 (a0 + 3) dX6_trimmed_51 rfl flX6_24 (c0.k s2.1) (c0.r s2.2.2.2.2.2.1) ?_
  refine g_iconst (0) 55 dX6_trimmed_54 rfl rfl ?_
  refine g_aload_n 0 56 dX6_trimmed_55 rfl rfl ?_
  refine g_getR 59 (b + 3) dX6_trimmed_56 rfl flX6_24 (c0.k t2.1) (c0.r t2.2.2.2.2.2.1) ?_
  refine g_iconst (0) 60 dX6_trimmed_59 rfl rfl ?_
  refine g_aload_n 1 61 dX6_trimmed_60 rfl rfl ?_
  refine g_getI 64 dX6_trimmed_61 rfl flX6_36 (c0.k s2.1) ?_
  rw [e6]
  refine g_copy 67 dX6_trimmed_64 rfl q3_178 q3_180 q3_179 q1_17 (c0.k s2.2.2.2.2.2.2.1) (c0.k t2.2.2.2.2.2.2.1) (by decide) (by decide) gx (by rw [hxn]; show 0 + _ ≤ _; omega) (by rw [hxn]; show 0 + _ ≤ _; omega) (Nat.le_of_ble_eq_true rfl) ?_
  rw [hxn, show ((0 : Int32).toNatClampNeg) = 0 from rfl]
  have e6 := (cp_o (a := a0 + 3) (b := b + 3) (sp := 0) (dp := 0) (n := n) (c := a0) (i := 6) (by omega)).trans e6
  have e7 := (cp_o (a := a0 + 3) (b := b + 3) (sp := 0) (dp := 0) (n := n) (c := a0) (i := 7) (by omega)).trans e7
  replace c0 := Sm.cp (a := a0 + 3) (b := b + 3) (sp := 0) (dp := 0) (n := n) c0
  refine g_aload_n 1 68 dX6_trimmed_67 rfl rfl ?_
  refine g_getR 71 (a0 + 4) dX6_trimmed_68 rfl flX6_27 (c0.k s2.1) (c0.r s2.2.2.2.2.2.2.2.1) ?_
  refine g_iconst (0) 72 dX6_trimmed_71 rfl rfl ?_
  refine g_aload_n 0 73 dX6_trimmed_72 rfl rfl ?_
  refine g_getR 76 (b + 4) dX6_trimmed_73 rfl flX6_27 (c0.k t2.1) (c0.r t2.2.2.2.2.2.2.2.1) ?_
  refine g_iconst (0) 77 dX6_trimmed_76 rfl rfl ?_
  refine g_aload_n 1 78 dX6_trimmed_77 rfl rfl ?_
  refine g_getI 81 dX6_trimmed_78 rfl flX6_36 (c0.k s2.1) ?_
  rw [e6]
  refine g_copy 84 dX6_trimmed_81 rfl q3_178 q3_180 q3_179 q1_17 (c0.k s2.2.2.2.2.2.2.2.2.1) (c0.k t2.2.2.2.2.2.2.2.2.1) (by decide) (by decide) gx (by rw [hxn]; show 0 + _ ≤ _; omega) (by rw [hxn]; show 0 + _ ≤ _; omega) (Nat.le_of_ble_eq_true rfl) ?_
  rw [hxn, show ((0 : Int32).toNatClampNeg) = 0 from rfl]
  have e6 := (cp_o (a := a0 + 4) (b := b + 4) (sp := 0) (dp := 0) (n := n) (c := a0) (i := 6) (by omega)).trans e6
  have e7 := (cp_o (a := a0 + 4) (b := b + 4) (sp := 0) (dp := 0) (n := n) (c := a0) (i := 7) (by omega)).trans e7
  replace c0 := Sm.cp (a := a0 + 4) (b := b + 4) (sp := 0) (dp := 0) (n := n) c0
  refine g_aload_n 1 85 dX6_trimmed_84 rfl rfl ?_
  refine g_getR 88 (a0 + 5) dX6_trimmed_85 rfl flX6_30 (c0.k s2.1) (c0.r s2.2.2.2.2.2.2.2.2.2.1) ?_
  refine g_iconst (0) 89 dX6_trimmed_88 rfl rfl ?_
  refine g_aload_n 0 90 dX6_trimmed_89 rfl rfl ?_
  refine g_getR 93 (b + 5) dX6_trimmed_90 rfl flX6_30 (c0.k t2.1) (c0.r t2.2.2.2.2.2.2.2.2.2.1) ?_
  refine g_iconst (0) 94 dX6_trimmed_93 rfl rfl ?_
  refine g_aload_n 1 95 dX6_trimmed_94 rfl rfl ?_
  refine g_getI 98 dX6_trimmed_95 rfl flX6_40 (c0.k s2.1) ?_
  rw [e7]
  refine g_copy 101 dX6_trimmed_98 rfl q3_178 q3_180 q3_179 q1_17 (c0.k s2.2.2.2.2.2.2.2.2.2.2.1) (c0.k t2.2.2.2.2.2.2.2.2.2.2.1) (by decide) (by decide) gy (by rw [hym]; show 0 + _ ≤ _; omega) (by rw [hym]; show 0 + _ ≤ _; omega) (Nat.le_of_ble_eq_true rfl) ?_
  rw [hym, show ((0 : Int32).toNatClampNeg) = 0 from rfl]
  have e6 := (cp_o (a := a0 + 5) (b := b + 5) (sp := 0) (dp := 0) (n := m) (c := a0) (i := 6) (by omega)).trans e6
  have e7 := (cp_o (a := a0 + 5) (b := b + 5) (sp := 0) (dp := 0) (n := m) (c := a0) (i := 7) (by omega)).trans e7
  replace c0 := Sm.cp (a := a0 + 5) (b := b + 5) (sp := 0) (dp := 0) (n := m) c0
  refine g_aload_n 1 102 dX6_trimmed_101 rfl rfl ?_
  refine g_getR 105 (a0 + 6) dX6_trimmed_102 rfl flX6_33 (c0.k s2.1) (c0.r s2.2.2.2.2.2.2.2.2.2.2.2.1) ?_
  refine g_iconst (0) 106 dX6_trimmed_105 rfl rfl ?_
  refine g_aload_n 0 107 dX6_trimmed_106 rfl rfl ?_
  refine g_getR 110 (b + 6) dX6_trimmed_107 rfl flX6_33 (c0.k t2.1) (c0.r t2.2.2.2.2.2.2.2.2.2.2.2.1) ?_
  refine g_iconst (0) 111 dX6_trimmed_110 rfl rfl ?_
  refine g_aload_n 1 112 dX6_trimmed_111 rfl rfl ?_
  refine g_getI 115 dX6_trimmed_112 rfl flX6_40 (c0.k s2.1) ?_
  rw [e7]
  refine g_copy 118 dX6_trimmed_115 rfl q3_178 q3_180 q3_179 q1_17 (c0.k s2.2.2.2.2.2.2.2.2.2.2.2.2) (c0.k t2.2.2.2.2.2.2.2.2.2.2.2.2) (by decide) (by decide) gy (by rw [hym]; show 0 + _ ≤ _; omega) (by rw [hym]; show 0 + _ ≤ _; omega) (Nat.le_of_ble_eq_true rfl) ?_
  rw [hym, show ((0 : Int32).toNatClampNeg) = 0 from rfl]
  have e6 := (cp_o (a := a0 + 6) (b := b + 6) (sp := 0) (dp := 0) (n := m) (c := a0) (i := 6) (by omega)).trans e6
  have e7 := (cp_o (a := a0 + 6) (b := b + 6) (sp := 0) (dp := 0) (n := m) (c := a0) (i := 7) (by omega)).trans e7
  replace c0 := Sm.cp (a := a0 + 6) (b := b + 6) (sp := 0) (dp := 0) (n := m) c0
  refine g_aload_n 0 119 dX6_trimmed_118 rfl rfl ?_
  refine g_aload_n 1 120 dX6_trimmed_119 rfl rfl ?_
  refine g_getI 123 dX6_trimmed_120 rfl flX6_36 (c0.k s2.1) ?_
  rw [e6]
  refine g_putI 126 dX6_trimmed_123 rfl flX6_36 (c0.k t2.1) ?_
  have e7 := (wi_o (a := b) (i := 6) (v := x) (c := a0) (j := 7) (by omega)).trans e7
  replace c0 := Sm.wi (a := b) (i := 6) (v := x) c0
  refine g_aload_n 0 127 dX6_trimmed_126 rfl rfl ?_
  refine g_aload_n 1 128 dX6_trimmed_127 rfl rfl ?_
  refine g_getI 131 dX6_trimmed_128 rfl flX6_40 (c0.k s2.1) ?_
  rw [e7]
  refine g_putI 134 dX6_trimmed_131 rfl flX6_40 (c0.k t2.1) ?_
  refine g_aload_n 0 135 dX6_trimmed_134 rfl rfl ?_
  refine g_aret dX6_trimmed_135 rfl (Or.inr ⟨_, rfl⟩) (Nat.le_of_ble_eq_true rfl) (by omega) (hQ _ ?_ ?_ ?_ ?_)
  · exact trim_fr hF2
  · exact hn2
  · exact Tx.sm (Sm.wi (Sm.wi (Sm.cp (Sm.cp (Sm.cp (Sm.cp (Sm.cp (Sm.cp Sm.rf)))))))) t2
  · exact trim_c hf hF2 ha
