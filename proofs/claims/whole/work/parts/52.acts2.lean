/-! insert, remove; the reference's adds (its loop), takesKey; side, seed. -/
theorem iZ_s1 (i : Nat) : iZ (i : Int) + 1 = iZ ((i + 1 : Nat) : Int) := by rw [iZ_l1, iZ_add]; rfl
theorem iZ_p1 {i : Nat} (h : 0 < i) : iZ (i : Int) + (-1) = iZ ((i - 1 : Nat) : Int) := by
  rw [iZ_l1, iZ_neg, iZ_add]; congr 1; omega
theorem iZ_m1 {i : Nat} (h : 0 < i) : iZ (i : Int) - 1 = iZ ((i - 1 : Nat) : Int) := by
  rw [iZ_l1, iZ_sub]; congr 1; omega
theorem iZ_cl {i : Nat} (h : i < 2147483648) : (iZ (i : Int)).toNatClampNeg = i := by rw [iZ_nat (by omega) (by omega)]; rfl
theorem iZ_1a (i : Nat) : 1 + iZ (i : Int) = iZ ((1 + i : Nat) : Int) := by rw [iZ_l1, iZ_add]; rfl
theorem ins_8l {N : Nat} {M : gM} {a p m : Nat} {k n0 : Int32} (hm : m < 30) (hp : p ≤ m) (h0 : g_mi M a 3 = n0) : ∀ (n i : Nat) (f : Nat → Nat → Int32), p ≤ i → i ≤ m → i - p < n → (∀ c, c ≠ a + 1 → f c = g_mi M c) → (∀ j, f (a + 1) j = if i < j ∧ j ≤ m then g_mi M (a + 1) (j - 1) else g_mi M (a + 1) j) → vX3_insert N M n 0 f a k (iZ p) (iZ i) ∧ (∀ c, c ≠ a → c ≠ a + 1 → (wX3_insert N M n 0 f a k (iZ p) (iZ i)).2 c = g_mi M c) ∧ (∀ j, (wX3_insert N M n 0 f a k (iZ p) (iZ i)).2 a j = if j = 3 then n0 + 1 else g_mi M a j) ∧ ∀ j, (wX3_insert N M n 0 f a k (iZ p) (iZ i)).2 (a + 1) j = if j = p then k else if p < j ∧ j ≤ m then g_mi M (a + 1) (j - 1) else g_mi M (a + 1) j := by
  intro n
  induction n with
  | zero => intro i f h1 h2 h3; omega
  | succ n ih =>
    intro i f h1 h2 h3 hf1 hf2
    rw [vX3_insert, wX3_insert]
    unfold eX3_insert_21 bX3_insert_21
    by_cases c : i ≤ p
    · have c' : iZ (i : Int) ≤ iZ (p : Int) := by rw [iZ_le (by omega) (by omega) (by omega) (by omega)]; omega
      have e : i = p := by omega
      subst e
      simp only [if_pos c', iZ_cl (show i < 2147483648 by omega)]
      refine ⟨⟨fun _ => iZ_in (by omega) (by omega) (by omega), fun q => absurd c' q, fun q => absurd c' q, trivial⟩, fun c h4 h5 => ?_, fun j => ?_, fun j => ?_⟩
      · funext j
        rw [mi_wi, if_neg (by omega), mi_wi, if_neg (by omega), mi_wm, hf1 c h5]
      · rw [mi_wi]
        by_cases hj : j = 3
        · rw [if_pos ⟨rfl, hj⟩, if_pos hj, mi_wi, if_neg (by omega), mi_wm, hf1 a (by omega), h0]
        · rw [if_neg (by omega), if_neg hj, mi_wi, if_neg (by omega), mi_wm, hf1 a (by omega)]
      · rw [mi_wi, if_neg (by omega), mi_wi, mi_wm]
        by_cases hj : j = i
        · rw [if_pos ⟨rfl, hj⟩, if_pos hj]
        · rw [if_neg (by omega), if_neg hj, hf2]
    · have c' : ¬ iZ (i : Int) ≤ iZ (p : Int) := by rw [iZ_le (by omega) (by omega) (by omega) (by omega)]; omega
      simp only [if_neg c', iZ_p1 (show 0 < i by omega), iZ_m1 (show 0 < i by omega), iZ_cl (show i < 2147483648 by omega), iZ_cl (show i - 1 < 2147483648 by omega), mi_wm]
      obtain ⟨q1, q2⟩ := ih (i - 1) (g_mi (g_wi (g_wm M f (g_ml M)) (a + 1) i (f (a + 1) (i - 1)))) (by omega) (by omega) (by omega) (fun c hc => by
          funext j; rw [mi_wi, if_neg (by omega), mi_wm, hf1 c hc]) (fun j => by
          rw [mi_wi, mi_wm, hf2, hf2, if_neg (show ¬ (i < i - 1 ∧ i - 1 ≤ m) by omega)]
          by_cases hj : j = i
          · subst hj; rw [if_pos ⟨rfl, rfl⟩, if_pos (by omega)]
          · rw [if_neg (by omega)]
            by_cases hj2 : i < j ∧ j ≤ m
            · rw [if_pos hj2, if_pos (by omega)]
            · rw [if_neg hj2, if_neg (by omega)])
      exact ⟨⟨fun q => absurd q c', fun _ => iZ_in (by omega) (by omega) (by omega), fun _ => iZ_in (by omega) (by omega) (by omega), q1⟩, q2⟩
theorem ins_8 {N : Nat} {M : gM} {a : Nat} {r : Nat → Int} {k : Int} (hN : 100 ≤ N) (hV : Vk r) (hR : Rk M a r) (h30 : r 0 < 30) (b1 : -2147483648 ≤ k) (b2 : k < 2147483648) : EX3_insert N M a (iZ k) ∧ Rk (mX3_insert N M a (iZ k)) a (addR r k) ∧ Fp (fun c => c = a ∨ c = a + 1) M (mX3_insert N M a (iZ k)) := by
  obtain ⟨e1, e2⟩ := lo_8 hN hV hR b1 b2
  have l1 := lo_le r k hV.1
  have v1 := hV.1
  have hc : g_mi M a 3 < 30 := by rw [hR.1, iZ_l30, iZ_lt (by omega) (by omega) (by omega) (by omega)]; exact h30
  have er : r 0 = ((r 0).toNat : Int) := by omega
  obtain ⟨q1, q2, q3, q4⟩ := ins_8l (N := N) (M := M) (a := a) (p := lo r k) (m := (r 0).toNat) (k := iZ k) (n0 := iZ (r 0)) (by omega) (by omega) hR.1 N (r 0).toNat (g_mi M) (by omega) (by omega) (by omega) (fun _ _ => rfl) (fun j => by rw [if_neg (by omega)])
  unfold EX3_insert eX3_insert_0 mX3_insert bX3_insert_0
  rw [if_pos hc, if_pos hc, e2, hR.1]
  have ez : iZ (r 0) = iZ (((r 0).toNat : Nat) : Int) := by rw [← er]
  rw [ez]
  refine ⟨⟨e1, q1⟩, ⟨?_, fun i hi => ?_, ?_, ?_, ?_⟩, fun c hcc => ?_⟩
  · rw [mi_wm, q3, if_pos rfl, iZ_l1, iZ_add]
    unfold addR; rw [if_pos rfl]
  · rw [mi_wm, q4]
    have ha0 : addR r k 0 = r 0 + 1 := by unfold addR; rw [if_pos rfl]
    rw [ha0] at hi
    unfold addR
    rw [if_neg (show ¬ 1 + i = 0 by omega)]
    by_cases h1 : i = lo r k
    · rw [if_pos h1, if_pos (by omega)]
    · by_cases h2 : lo r k < i ∧ i ≤ (r 0).toNat
      · rw [if_neg h1, if_pos h2, if_neg (show ¬ 1 + i = 1 + lo r k by omega), if_pos (by omega), hR.2.1 (i - 1) (by omega)]
        congr 2; omega
      · rw [if_neg h1, if_neg h2, if_neg (show ¬ 1 + i = 1 + lo r k by omega), if_neg (by omega), hR.2.1 i (by omega)]
  · rw [mi_wm, q3, if_neg (by omega), hR.2.2.1, addR_hi hV h30 (by omega)]
  · rw [mi_wm, q3, if_neg (by omega), hR.2.2.2.1, addR_hi hV h30 (by omega)]
  · rw [mi_wm, q2 _ (by omega) (by omega), hR.2.2.2.2, addR_hi hV h30 (by omega)]
  · rw [mi_wm]; exact q2 c (fun q => hcc (Or.inl q)) (fun q => hcc (Or.inr q))
theorem rem_8l {N : Nat} {M : gM} {a p m : Nat} {n0 : Int} (hm : m ≤ 30) (h0 : g_mi M a 3 = iZ (m : Int)) : ∀ (n i : Nat) (f : Nat → Nat → Int32), p ≤ i → i < m → m - i < n → (∀ c, c ≠ a + 1 → f c = g_mi M c) → (∀ j, f (a + 1) j = if p ≤ j ∧ j < i then g_mi M (a + 1) (j + 1) else g_mi M (a + 1) j) → vX3_remove N M n 0 f a (iZ i) ∧ (∀ c, c ≠ a → c ≠ a + 1 → (wX3_remove N M n 0 f a (iZ i)).2 c = g_mi M c) ∧ (∀ j, (wX3_remove N M n 0 f a (iZ i)).2 a j = if j = 3 then iZ ((m : Int) - 1) else g_mi M a j) ∧ ∀ j, (wX3_remove N M n 0 f a (iZ i)).2 (a + 1) j = if p ≤ j ∧ j + 1 < m then g_mi M (a + 1) (j + 1) else g_mi M (a + 1) j := by
  intro n
  induction n with
  | zero => intro i f h1 h2 h3; omega
  | succ n ih =>
    intro i f h1 h2 h3 hf1 hf2
    rw [vX3_remove, wX3_remove]
    unfold eX3_remove_15 bX3_remove_15
    have ea : g_mi (g_wm M f (g_ml M)) a 3 = iZ (m : Int) := by rw [mi_wm, hf1 a (by omega), h0]
    rw [ea]
    simp only [iZ_s1]
    by_cases c : m ≤ i + 1
    · have c' : iZ (m : Int) ≤ iZ ((i + 1 : Nat) : Int) := by rw [iZ_le (by omega) (by omega) (by omega) (by omega)]; omega
      simp only [if_pos c']
      refine ⟨⟨fun q => absurd c' q, fun q => absurd c' q, trivial⟩, fun c h4 h5 => ?_, fun j => ?_, fun j => ?_⟩
      · funext j
        rw [mi_wi, if_neg (by omega), mi_wm, hf1 c h5]
      · rw [mi_wi, mi_wm]
        by_cases hj : j = 3
        · rw [if_pos ⟨rfl, hj⟩, if_pos hj, iZ_l1, iZ_sub]
        · rw [if_neg (by omega), if_neg hj, hf1 a (by omega)]
      · rw [mi_wi, if_neg (by omega), mi_wm, hf2]
        by_cases hj : p ≤ j ∧ j < i
        · rw [if_pos hj, if_pos (by omega)]
        · rw [if_neg hj, if_neg (by omega)]
    · have c' : ¬ iZ (m : Int) ≤ iZ ((i + 1 : Nat) : Int) := by rw [iZ_le (by omega) (by omega) (by omega) (by omega)]; omega
      simp only [if_neg c', iZ_cl (show i < 2147483648 by omega), iZ_cl (show i + 1 < 2147483648 by omega), mi_wm]
      obtain ⟨q1, q2⟩ := ih (i + 1) (g_mi (g_wi (g_wm M f (g_ml M)) (a + 1) i (f (a + 1) (i + 1)))) (by omega) (by omega) (by omega) (fun c hc => by
          funext j; rw [mi_wi, if_neg (by omega), mi_wm, hf1 c hc]) (fun j => by
          rw [mi_wi, mi_wm, hf2, hf2, if_neg (show ¬ (p ≤ i + 1 ∧ i + 1 < i) by omega)]
          by_cases hj : j = i
          · subst hj; rw [if_pos ⟨rfl, rfl⟩, if_pos (by omega)]
          · rw [if_neg (by omega)]
            by_cases hj2 : p ≤ j ∧ j < i
            · rw [if_pos hj2, if_pos (by omega)]
            · rw [if_neg hj2, if_neg (by omega)])
      exact ⟨⟨fun _ => iZ_in (by omega) (by omega) (by omega), fun _ => iZ_in (by omega) (by omega) (by omega), q1⟩, q2⟩
theorem rem_8 {N : Nat} {M : gM} {a : Nat} {r : Nat → Int} {k : Int} (hN : 100 ≤ N) (hV : Vk r) (hR : Rk M a r) (hT : isT r k = true) (b1 : -2147483648 ≤ k) (b2 : k < 2147483648) : EX3_remove N M a (iZ k) ∧ Rk (mX3_remove N M a (iZ k)) a (takeR r k) ∧ Fp (fun c => c = a ∨ c = a + 1) M (mX3_remove N M a (iZ k)) := by
  obtain ⟨e1, e2⟩ := lo_8 hN hV hR b1 b2
  obtain ⟨e3, e4⟩ := has_8 hN hV hR b1 b2
  have l1 := lo_le r k hV.1
  have v1 := hV.1
  have v2 := hV.2.1
  have hl : (lo r k : Int) < r 0 := by unfold isT at hT; simp only [decide_eq_true_eq] at hT; exact hT.1
  have hne : ¬ fX3_has N M a (iZ k) = 0 := by rw [e4, iB_0, hT]; simp
  have er : r 0 = ((r 0).toNat : Int) := by omega
  have h0 : g_mi M a 3 = iZ (((r 0).toNat : Nat) : Int) := by rw [hR.1, ← er]
  obtain ⟨q1, q2, q3, q4⟩ := rem_8l (N := N) (M := M) (a := a) (p := lo r k) (m := (r 0).toNat) (n0 := 0) (by omega) h0 N (lo r k) (g_mi M) (by omega) (by omega) (by omega) (fun _ _ => rfl) (fun j => by rw [if_neg (by omega)])
  unfold EX3_remove eX3_remove_0 mX3_remove bX3_remove_0
  rw [if_neg hne, if_neg hne, e2]
  refine ⟨⟨e3, fun _ => e1, q1⟩, ⟨?_, fun i hi => ?_, ?_, ?_, ?_⟩, fun c hcc => ?_⟩
  · rw [mi_wm, q3, if_pos rfl]
    unfold takeR; rw [if_pos rfl, ← er]
  · rw [mi_wm, q4]
    have ha0 : takeR r k 0 = r 0 - 1 := by unfold takeR; rw [if_pos rfl]
    rw [ha0] at hi
    unfold takeR
    rw [if_neg (show ¬ 1 + i = 0 by omega)]
    by_cases h1 : lo r k ≤ i ∧ i + 1 < (r 0).toNat
    · rw [if_pos h1, if_pos (by omega), hR.2.1 (i + 1) (by omega)]; rfl
    · rw [if_neg h1, if_neg (by omega), hR.2.1 i (by omega)]
  · rw [mi_wm, q3, if_neg (by omega), hR.2.2.1, takeR_hi hV (by omega)]
  · rw [mi_wm, q3, if_neg (by omega), hR.2.2.2.1, takeR_hi hV (by omega)]
  · rw [mi_wm, q2 _ (by omega) (by omega), hR.2.2.2.2, takeR_hi hV (by omega)]
  · rw [mi_wm]; exact q2 c (fun q => hcc (Or.inl q)) (fun q => hcc (Or.inr q))
/-- the reference's shift upwards, its end -/
theorem add_9l {N K : Nat} {M : gM} {b p m : Nat} {r : Nat → Int} {k : Int} (hm : m < 30) (hp : p ≤ m) (h0 : r 0 = m) (hl : lo r k = p) : ∀ (n i : Nat) (f : Nat → Nat → Int32), p ≤ i → i ≤ m → i - p < n → (∀ c, c ≠ b + 2 → f c = g_mi M c) → (∀ j, j < 5812 → f (b + 2) j = if 1 + i < j ∧ j ≤ 1 + m then iZ (r (j - 1)) else iZ (r j)) → vX9_adds N K M n 0 f b (iZ k) (iZ p) (iZ i) ∧ (∀ c, c ≠ b + 2 → (wX9_adds N K M n 0 f b (iZ k) (iZ p) (iZ i)).2 c = g_mi M c) ∧ (∀ j, j < 5812 → (wX9_adds N K M n 0 f b (iZ k) (iZ p) (iZ i)).2 (b + 2) j = iZ (addR r k j)) ∧ (wX9_adds N K M n 0 f b (iZ k) (iZ p) (iZ i)).1 = iZ (r 0 + 1) := by
  intro n
  induction n with
  | zero => intro i f h1 h2 h3; omega
  | succ n ih =>
    intro i f h1 h2 h3 hf1 hf2
    rw [vX9_adds, wX9_adds]
    unfold eX9_adds_55 bX9_adds_55
    by_cases c : i ≤ p
    · have c' : iZ (i : Int) ≤ iZ (p : Int) := by rw [iZ_le (by omega) (by omega) (by omega) (by omega)]; omega
      have e : i = p := by omega
      subst e
      simp only [if_pos c', iZ_1a, iZ_cl (show 1 + i < 2147483648 by omega)]
      have e0 : g_mi (g_wi (g_wm M f (g_ml M)) (b + 2) (1 + i) (iZ k)) (b + 2) 0 = iZ (r 0) := by
        rw [mi_wi, if_neg (by omega), mi_wm, hf2 0 (by omega), if_neg (by omega)]
      rw [e0]
      refine ⟨⟨fun _ => iZ_in (by omega) (by omega) (by omega), fun q => absurd c' q, fun q => absurd c' q, trivial⟩, fun c h4 => ?_, fun j hj => ?_, ?_⟩
      · funext j
        rw [mi_wi, if_neg (by omega), mi_wi, if_neg (by omega), mi_wm, hf1 c h4]
      · rw [mi_wi]
        unfold addR
        by_cases hj0 : j = 0
        · rw [if_pos ⟨rfl, hj0⟩, if_pos hj0, iZ_l1, iZ_add]
        · rw [if_neg (by omega), if_neg hj0, mi_wi, mi_wm]
          by_cases hj1 : j = 1 + i
          · rw [if_pos ⟨rfl, hj1⟩, if_pos (by omega)]
          · rw [if_neg (by omega), if_neg (by omega), hf2 j hj]
            by_cases hj2 : 1 + i < j ∧ j ≤ 1 + m
            · rw [if_pos hj2, if_pos (by omega)]
            · rw [if_neg hj2, if_neg (by omega)]
      · rw [mi_wi, if_pos ⟨rfl, rfl⟩, iZ_l1, iZ_add]
    · have c' : ¬ iZ (i : Int) ≤ iZ (p : Int) := by rw [iZ_le (by omega) (by omega) (by omega) (by omega)]; omega
      have ek : fX9_keyAt (g_wm M f (g_ml M)) b (iZ ((i - 1 : Nat) : Int)) = iZ (r i) := by
        unfold fX9_keyAt
        rw [iZ_1a, iZ_cl (show 1 + (i - 1) < 2147483648 by omega), mi_wm, hf2 _ (by omega), if_neg (by omega), show 1 + (i - 1) = i by omega]
      have ekE : EX9_keyAt (g_wm M f (g_ml M)) b (iZ ((i - 1 : Nat) : Int)) := by
        unfold EX9_keyAt
        rw [iZ_1a]; exact iZ_in (by omega) (by omega) (by omega)
      simp only [if_neg c', iZ_p1 (show 0 < i by omega), iZ_m1 (show 0 < i by omega), iZ_1a, iZ_cl (show 1 + i < 2147483648 by omega), ek]
      obtain ⟨q1, q2⟩ := ih (i - 1) (g_mi (g_wi (g_wm M f (g_ml M)) (b + 2) (1 + i) (iZ (r i)))) (by omega) (by omega) (by omega) (fun c hc => by
          funext j; rw [mi_wi, if_neg (by omega), mi_wm, hf1 c hc]) (fun j hj5 => by
          rw [mi_wi, mi_wm, hf2 j hj5]
          by_cases hj : j = 1 + i
          · subst hj; rw [if_pos ⟨rfl, rfl⟩, if_pos (by omega), show 1 + i - 1 = i by omega]
          · rw [if_neg (by omega)]
            by_cases hj2 : 1 + i < j ∧ j ≤ 1 + m
            · rw [if_pos hj2, if_pos (by omega)]
            · rw [if_neg hj2, if_neg (by omega)])
      exact ⟨⟨fun q => absurd q c', fun _ => ekE, fun _ => iZ_in (by omega) (by omega) (by omega), q1⟩, q2⟩
theorem take_9l {N : Nat} {M : gM} {b p m : Nat} {r : Nat → Int} {k : Int} (hm : m < 30) (h0 : r 0 = m + 1) (hl : lo r k = p) : ∀ (n i : Nat) (f : Nat → Nat → Int32), p ≤ i → i ≤ m → m - i < n → (∀ c, c ≠ b + 2 → f c = g_mi M c) → (∀ j, j < 5812 → f (b + 2) j = if j = 0 then iZ (m : Int) else if 1 + p ≤ j ∧ j < 1 + i then iZ (r (j + 1)) else iZ (r j)) → vX9_takesKey N M n 0 f b (iZ i) ∧ (∀ c, c ≠ b + 2 → (wX9_takesKey N M n 0 f b (iZ i)).2 c = g_mi M c) ∧ (∀ j, j < 5812 → (wX9_takesKey N M n 0 f b (iZ i)).2 (b + 2) j = iZ (takeR r k j)) ∧ (wX9_takesKey N M n 0 f b (iZ i)).1 = iZ (r 0 - 1) := by
  intro n
  induction n with
  | zero => intro i f h1 h2 h3; omega
  | succ n ih =>
    intro i f h1 h2 h3 hf1 hf2
    rw [vX9_takesKey, wX9_takesKey]
    unfold eX9_takesKey_38 bX9_takesKey_38
    have ea : g_mi (g_wm M f (g_ml M)) (b + 2) 0 = iZ (m : Int) := by rw [mi_wm, hf2 0 (by omega), if_pos rfl]
    rw [ea]
    by_cases c : m ≤ i
    · have c' : iZ (m : Int) ≤ iZ (i : Int) := by rw [iZ_le (by omega) (by omega) (by omega) (by omega)]; omega
      simp only [if_pos c']
      refine ⟨⟨fun q => absurd c' q, fun q => absurd c' q, trivial⟩, fun c h4 => ?_, fun j hj => ?_, ?_⟩
      · rw [mi_wm, hf1 c h4]
      · rw [mi_wm, hf2 j hj]
        unfold takeR
        by_cases hj0 : j = 0
        · rw [if_pos hj0, if_pos hj0]; congr 1; omega
        · rw [if_neg hj0, if_neg hj0]
          by_cases hj2 : 1 + p ≤ j ∧ j < 1 + i
          · rw [if_pos hj2, if_pos (by omega)]
          · rw [if_neg hj2, if_neg (by omega)]
      · congr 1; omega
    · have c' : ¬ iZ (m : Int) ≤ iZ (i : Int) := by rw [iZ_le (by omega) (by omega) (by omega) (by omega)]; omega
      have ek : fX9_keyAt (g_wm M f (g_ml M)) b (iZ ((i + 1 : Nat) : Int)) = iZ (r (i + 2)) := by
        unfold fX9_keyAt
        rw [iZ_1a, iZ_cl (show 1 + (i + 1) < 2147483648 by omega), mi_wm, hf2 _ (by omega), if_neg (by omega), if_neg (by omega), show 1 + (i + 1) = i + 2 by omega]
      have ekE : EX9_keyAt (g_wm M f (g_ml M)) b (iZ ((i + 1 : Nat) : Int)) := by
        unfold EX9_keyAt
        rw [iZ_1a]; exact iZ_in (by omega) (by omega) (by omega)
      simp only [if_neg c', iZ_s1, iZ_1a, iZ_cl (show 1 + i < 2147483648 by omega), ek]
      obtain ⟨q1, q2⟩ := ih (i + 1) (g_mi (g_wi (g_wm M f (g_ml M)) (b + 2) (1 + i) (iZ (r (i + 2))))) (by omega) (by omega) (by omega) (fun c hc => by
          funext j; rw [mi_wi, if_neg (by omega), mi_wm, hf1 c hc]) (fun j hj5 => by
          rw [mi_wi, mi_wm, hf2 j hj5]
          by_cases hj : j = 1 + i
          · subst hj; rw [if_pos ⟨rfl, rfl⟩, if_neg (by omega), if_pos (by omega), show 1 + i + 1 = i + 2 by omega]
          · rw [if_neg (by omega)]
            by_cases hj0 : j = 0
            · rw [if_pos hj0, if_pos hj0]
            · rw [if_neg hj0, if_neg hj0]
              by_cases hj2 : 1 + p ≤ j ∧ j < 1 + i
              · rw [if_pos hj2, if_pos (by omega)]
              · rw [if_neg hj2, if_neg (by omega)])
      exact ⟨⟨fun _ => ekE, fun _ => iZ_in (by omega) (by omega) (by omega), q1⟩, q2⟩
