/-! take, side, seed on both sides; degrees. -/
def takeA (r : Nat → Int) (k : Int) : Int × (Nat → Int) := if ¬ (0 ≤ k ∧ k ≤ 999) then (-1, r) else if isT r k = false then (-3, r) else (r 0 - 1, takeR r k)
def sideA (r : Nat → Int) (x : Int) : Int × (Nat → Int) := if ¬ (2 ≤ x ∧ x ≤ 20) then (-1, r) else if x = r 31 then (-3, r) else (r 31, va_up r 31 x)
def seedA (r : Nat → Int) (x : Int) : Int × (Nat → Int) := if ¬ (0 ≤ x ∧ x ≤ 255) then (-1, r) else if x = r 32 then (-3, r) else (r 32, va_up r 32 x)
theorem up_ne {α : Type} {f : Nat → α} {k j : Nat} {x : α} (h : j ≠ k) : va_up f k x j = f j := by unfold va_up; rw [if_neg h]
theorem up_eq {α : Type} {f : Nat → α} {k : Nat} {x : α} : va_up f k x k = x := by unfold va_up; rw [if_pos rfl]
theorem iZ_m3 : (-3 : Int32) = iZ (-3) := by rw [iZ_l3, iZ_neg]
theorem iZ_n1 : (-1 : Int32) = iZ (-1) := by rw [iZ_l1, iZ_neg]
theorem iZ_n5 : (-5 : Int32) = iZ (-5) := by rw [iZ_l5, iZ_neg]
theorem Rt.cg {M : gM} {t : Nat} {r r2 : Nat → Int} (hV : Vt r) (h : ∀ i, 33 ≤ i → i < 187 → r2 i = r i) (e : Rt M t r) : Rt M t r2 := by
  obtain ⟨e1, e2⟩ := e
  refine ⟨by rw [h 33 (by omega) (by omega)]; exact e1, fun q => ?_⟩
  rw [h 33 (by omega) (by omega)] at q
  obtain ⟨f1, f2, f3, f4, f5, f6⟩ := e2 q
  have v6 := (hV.2 q).2.2.2.2.2.1
  refine ⟨by rw [h 34 (by omega) (by omega)]; exact f1, by rw [h 35 (by omega) (by omega)]; exact f2, by rw [h 36 (by omega) (by omega)]; exact f3, fun i hi => ?_, fun v hv => by rw [h _ (by omega) (by omega)]; exact f5 v hv, fun v hv => by rw [h _ (by omega) (by omega)]; exact f6 v hv⟩
  rw [h 36 (by omega) (by omega)] at hi
  rw [h _ (by omega) (by omega)]; exact f4 i hi
theorem Vt.cg {r r2 : Nat → Int} (h : ∀ i, 33 ≤ i → i < 187 → r2 i = r i) (e : Vt r) : Vt r2 := by
  obtain ⟨e1, e2⟩ := e
  refine ⟨by rw [h 33 (by omega) (by omega)]; exact e1, fun q => ?_⟩
  rw [h 33 (by omega) (by omega)] at q
  obtain ⟨f1, f2, f3, f4, f5, f6, f7, f8, f9⟩ := e2 q
  refine ⟨by rw [h 34 (by omega) (by omega)]; exact f1, by rw [h 34 (by omega) (by omega)]; exact f2, by rw [h 35 (by omega) (by omega)]; exact f3, by rw [h 35 (by omega) (by omega)]; exact f4, by rw [h 36 (by omega) (by omega)]; exact f5, by rw [h 36 (by omega) (by omega)]; exact f6, fun i hi => ?_, fun v hv => by rw [h _ (by omega) (by omega)]; exact f8 v hv, fun v hv => by rw [h _ (by omega) (by omega)]; exact f9 v hv⟩
  rw [h 36 (by omega) (by omega)] at hi
  rw [h _ (by omega) (by omega)]; exact f7 i hi
theorem takeA_hi {r : Nat → Int} {k : Int} {i : Nat} (hV : Vk r) (hi : 31 ≤ i) : (takeA r k).2 i = r i := by
  unfold takeA
  split
  · rfl
  · split
    · rfl
    · exact takeR_hi hV hi
theorem takeA_V {r : Nat → Int} {k : Int} (hV : Vk r) : Vk (takeA r k).2 := by
  unfold takeA
  split
  · exact hV
  · split
    · exact hV
    · rename_i h1 h2
      have h3 : isT r k = true := by cases h : isT r k with | true => rfl | false => exact absurd h h2
      unfold isT at h3
      simp only [decide_eq_true_eq] at h3
      exact takeR_V hV (by omega)
theorem sideA_hi {r : Nat → Int} {x : Int} {i : Nat} (hi : i ≠ 31) : (sideA r x).2 i = r i := by
  unfold sideA
  split
  · rfl
  · split
    · rfl
    · exact up_ne hi
theorem seedA_hi {r : Nat → Int} {x : Int} {i : Nat} (hi : i ≠ 32) : (seedA r x).2 i = r i := by
  unfold seedA
  split
  · rfl
  · split
    · rfl
    · exact up_ne hi
theorem Vk.up {r r2 : Nat → Int} (hV : Vk r) (h : ∀ i, i ≤ 30 → r2 i = r i) (h1 : 2 ≤ r2 31) (h2 : r2 31 ≤ 20) (h3 : 0 ≤ r2 32) (h4 : r2 32 ≤ 255) (h5 : 0 ≤ r2 187) (h6 : r2 187 ≤ 999) : Vk r2 := by
  obtain ⟨v1, v2, v3, v4, v5, v6, v7, v8, v9, v10⟩ := hV
  have e0 := h 0 (by omega)
  refine ⟨by omega, by omega, fun i hi => ?_, fun i j hij hj => ?_, h1, h2, h3, h4, h5, h6⟩
  · rw [h 0 (by omega)] at hi
    rw [h _ (by omega)]; exact v3 i hi
  · rw [h 0 (by omega)] at hj
    rw [h _ (by omega), h _ (by omega)]; exact v4 i j hij hj
theorem sideA_V {r : Nat → Int} {x : Int} (hV : Vk r) : Vk (sideA r x).2 := by
  have hV0 := hV
  obtain ⟨v1, v2, v3, v4, v5, v6, v7, v8, v9, v10⟩ := hV0
  have e := fun i (h : i ≠ 31) => sideA_hi (r := r) (x := x) h
  refine hV.up (fun i hi => e i (by omega)) ?_ ?_ (by rw [e 32 (by omega)]; exact v7) (by rw [e 32 (by omega)]; exact v8) (by rw [e 187 (by omega)]; exact v9) (by rw [e 187 (by omega)]; exact v10)
  all_goals
    unfold sideA
    split
    · assumption
    · split
      · assumption
      · dsimp only; rw [up_eq]; omega
theorem seedA_V {r : Nat → Int} {x : Int} (hV : Vk r) : Vk (seedA r x).2 := by
  have hV0 := hV
  obtain ⟨v1, v2, v3, v4, v5, v6, v7, v8, v9, v10⟩ := hV0
  have e := fun i (h : i ≠ 32) => seedA_hi (r := r) (x := x) h
  refine hV.up (fun i hi => e i (by omega)) (by rw [e 31 (by omega)]; exact v5) (by rw [e 31 (by omega)]; exact v6) ?_ ?_ (by rw [e 187 (by omega)]; exact v9) (by rw [e 187 (by omega)]; exact v10)
  all_goals
    unfold seedA
    split
    · assumption
    · split
      · assumption
      · dsimp only; rw [up_eq]; omega
theorem take_8 {N : Nat} {M : gM} {a : Nat} {r : Nat → Int} {k : Int} (hN : 100 ≤ N) (hV : Vk r) (hR : Rk M a r) (b1 : -2147483648 ≤ k) (b2 : k < 2147483648) : EX8_takeFrom N M a (iZ k) ∧ fX8_takeFrom N M a (iZ k) = iZ (takeA r k).1 ∧ Rk (mX8_takeFrom N M a (iZ k)) a (takeA r k).2 ∧ Fp (fun c => c = a ∨ c = a + 1) M (mX8_takeFrom N M a (iZ k)) := by
  obtain ⟨e1, e2⟩ := has_8 hN hV hR b1 b2
  unfold EX8_takeFrom fX8_takeFrom mX8_takeFrom takeA
  rw [isKey_8 b1 b2, e2]
  simp only [iB_0]
  by_cases c1 : 0 ≤ k ∧ k ≤ 999
  · rw [if_neg (show ¬ (¬ (0 ≤ k ∧ k ≤ 999)) from fun q => q c1)]
    rw [if_neg (show ¬ decide (0 ≤ k ∧ k ≤ 999) = false by simp; omega), if_neg (show ¬ decide (0 ≤ k ∧ k ≤ 999) = false by simp; omega)]
    cases hT : isT r k with
    | false =>
      simp only [if_true]
      exact ⟨⟨fun _ => e1, fun _ q => absurd trivial q⟩, iZ_m3, hR, fun c _ => rfl⟩
    | true =>
      obtain ⟨g1, g2, g3⟩ := rem_8 hN hV hR hT b1 b2
      simp only [Bool.true_eq_false, if_false]
      refine ⟨⟨fun _ => e1, fun _ _ => g1⟩, ?_, ?_, fun c hc => g3 c hc⟩
      · rw [g2.1]; unfold takeR; rw [if_pos rfl]
      · exact g2
  · rw [if_pos c1, if_pos (show decide (0 ≤ k ∧ k ≤ 999) = false by simp; omega), if_pos (show decide (0 ≤ k ∧ k ≤ 999) = false by simp; omega)]
    refine ⟨⟨fun q => absurd (show decide (0 ≤ k ∧ k ≤ 999) = false by simp; omega) q, fun q => absurd (show decide (0 ≤ k ∧ k ≤ 999) = false by simp; omega) q⟩, iZ_n1, hR, fun c _ => rfl⟩
theorem take_9 {N : Nat} {M : gM} {b : Nat} {r : Nat → Int} {k : Int} (hN : 100 ≤ N) (hV : Vk r) (hR : Rr M b r) (b1 : -2147483648 ≤ k) (b2 : k < 2147483648) : EX9_takesKey N M b (iZ k) ∧ fX9_takesKey N M b (iZ k) = iZ (takeA r k).1 ∧ Rr (mX9_takesKey N M b (iZ k)) b (takeA r k).2 ∧ Fp (fun c => c = b + 2) M (mX9_takesKey N M b (iZ k)) := by
  obtain ⟨e1, e2⟩ := has_9 hN hV hR b1 b2
  obtain ⟨e3, e4⟩ := lo_9 hN hV hR b1 b2
  have v1 := hV.1
  have v2 := hV.2.1
  unfold EX9_takesKey eX9_takesKey_0 fX9_takesKey mX9_takesKey bX9_takesKey_0 takeA
  rw [isKey_9 b1 b2, e2, e4]
  simp only [iB_0]
  by_cases c1 : 0 ≤ k ∧ k ≤ 999
  · rw [if_neg (show ¬ (¬ (0 ≤ k ∧ k ≤ 999)) from fun q => q c1)]
    have d1 : ¬ decide (0 ≤ k ∧ k ≤ 999) = false := by simp; omega
    rw [if_neg d1, if_neg d1]
    cases hT : isT r k with
    | false =>
      simp only [if_true]
      exact ⟨⟨EisKey_9 b1 b2, fun _ => e1, fun _ q => absurd trivial q, trivial⟩, iZ_m3, hR, fun c _ => rfl⟩
    | true =>
      have hl : (lo r k : Int) < r 0 := by unfold isT at hT; simp only [decide_eq_true_eq] at hT; exact hT.1
      obtain ⟨q1, q2, q3, q4⟩ := take_9l (N := N) (M := M) (b := b) (p := lo r k) (m := (r 0).toNat - 1) (r := r) (k := k) (by omega) (by omega) rfl N (lo r k) (g_mi (g_wi M (b + 2) 0 (g_mi M (b + 2) 0 - 1))) (by omega) (by omega) (by omega) (fun c hc => by funext j; rw [mi_wi, if_neg (by omega)]) (fun j hj => by
        rw [mi_wi, hR 0 (by omega), hR j hj]
        by_cases h0 : j = 0
        · rw [if_pos ⟨rfl, h0⟩, if_pos h0, iZ_l1, iZ_sub]; congr 1; omega
        · rw [if_neg (by omega), if_neg h0, if_neg (by omega)])
      simp only [Bool.true_eq_false, if_false]
      refine ⟨⟨EisKey_9 b1 b2, fun _ => e1, fun _ _ => e3, q1⟩, q4, fun j hj => ?_, fun c hc => ?_⟩
      · rw [mi_wm]; exact q3 j hj
      · rw [mi_wm]; exact q2 c hc
  · have d1 : decide (0 ≤ k ∧ k ≤ 999) = false := by simp; omega
    rw [if_pos c1, if_pos d1, if_pos d1]
    refine ⟨⟨EisKey_9 b1 b2, fun q => absurd d1 q, fun q => absurd d1 q, trivial⟩, iZ_n1, hR, fun c _ => rfl⟩
theorem side_8 {M : gM} {a : Nat} {r : Nat → Int} {x : Int} (hV : Vk r) (hR : Rk M a r) (b1 : -2147483648 ≤ x) (b2 : x < 2147483648) : fX8_setSide M a (iZ x) = iZ (sideA r x).1 ∧ Rk (mX8_setSide M a (iZ x)) a (sideA r x).2 ∧ Fp (fun c => c = a) M (mX8_setSide M a (iZ x)) := by
  obtain ⟨v1, v2, v3, v4, v5, v6, v7, v8, v9, v10⟩ := hV
  unfold fX8_setSide mX8_setSide sideA
  rw [hR.2.2.1]
  simp only [iZ_l2, iZ_l20, iZ_lt b1 b2 (show -2147483648 ≤ 2 by decide) (show (2 : Int) < 2147483648 by decide), iZ_le b1 b2 (show -2147483648 ≤ 20 by decide) (show (20 : Int) < 2147483648 by decide), iZ_eq b1 b2 (show -2147483648 ≤ r 31 by omega) (show r 31 < 2147483648 by omega)]
  by_cases c1 : x < 2
  · rw [if_pos c1, if_pos c1, if_pos (show ¬ (2 ≤ x ∧ x ≤ 20) by omega)]
    exact ⟨iZ_n1, hR, fun c _ => rfl⟩
  · rw [if_neg c1, if_neg c1]
    by_cases c2 : x ≤ 20
    · rw [if_pos c2, if_pos c2, if_neg (show ¬ (¬ (2 ≤ x ∧ x ≤ 20)) by omega)]
      by_cases c3 : x = r 31
      · rw [if_pos c3, if_pos c3, if_pos c3]
        exact ⟨iZ_m3, hR, fun c _ => rfl⟩
      · rw [if_neg c3, if_neg c3, if_neg c3]
        dsimp only
        refine ⟨rfl, ⟨?_, fun i hi => ?_, ?_, ?_, ?_⟩, fun c hc => ?_⟩
        · rw [mi_wm, mi_wi, if_neg (by omega), up_ne (by omega)]; exact hR.1
        · rw [up_ne (by omega)] at hi
          rw [mi_wm, mi_wi, if_neg (by omega), up_ne (by omega)]; exact hR.2.1 i hi
        · rw [mi_wm, mi_wi, if_pos ⟨rfl, rfl⟩, up_eq]
        · rw [mi_wm, mi_wi, if_neg (by omega), up_ne (by omega)]; exact hR.2.2.2.1
        · rw [mi_wm, mi_wi, if_neg (by omega), up_ne (by omega)]; exact hR.2.2.2.2
        · rw [mi_wm]; funext j; rw [mi_wi, if_neg (fun q => hc q.1)]
    · rw [if_neg c2, if_neg c2, if_pos (show ¬ (2 ≤ x ∧ x ≤ 20) by omega)]
      exact ⟨iZ_n1, hR, fun c _ => rfl⟩
theorem seed_8 {M : gM} {a : Nat} {r : Nat → Int} {x : Int} (hV : Vk r) (hR : Rk M a r) (b1 : -2147483648 ≤ x) (b2 : x < 2147483648) : fX8_setSeed M a (iZ x) = iZ (seedA r x).1 ∧ Rk (mX8_setSeed M a (iZ x)) a (seedA r x).2 ∧ Fp (fun c => c = a) M (mX8_setSeed M a (iZ x)) := by
  obtain ⟨v1, v2, v3, v4, v5, v6, v7, v8, v9, v10⟩ := hV
  unfold fX8_setSeed mX8_setSeed seedA
  rw [hR.2.2.2.1, isSeed_8 b1 b2]
  simp only [iB_0, iZ_eq b1 b2 (show -2147483648 ≤ r 32 by omega) (show r 32 < 2147483648 by omega)]
  by_cases c1 : 0 ≤ x ∧ x ≤ 255
  · have d1 : ¬ decide (0 ≤ x ∧ x ≤ 255) = false := by simp; omega
    rw [if_neg d1, if_neg d1, if_neg (show ¬ (¬ (0 ≤ x ∧ x ≤ 255)) from fun q => q c1)]
    by_cases c3 : x = r 32
    · rw [if_pos c3, if_pos c3, if_pos c3]
      exact ⟨iZ_m3, hR, fun c _ => rfl⟩
    · rw [if_neg c3, if_neg c3, if_neg c3]
      dsimp only
      refine ⟨rfl, ⟨?_, fun i hi => ?_, ?_, ?_, ?_⟩, fun c hc => ?_⟩
      · rw [mi_wm, mi_wi, if_neg (by omega), up_ne (by omega)]; exact hR.1
      · rw [up_ne (by omega)] at hi
        rw [mi_wm, mi_wi, if_neg (by omega), up_ne (by omega)]; exact hR.2.1 i hi
      · rw [mi_wm, mi_wi, if_neg (by omega), up_ne (by omega)]; exact hR.2.2.1
      · rw [mi_wm, mi_wi, if_pos ⟨rfl, rfl⟩, up_eq]
      · rw [mi_wm, mi_wi, if_neg (by omega), up_ne (by omega)]; exact hR.2.2.2.2
      · rw [mi_wm]; funext j; rw [mi_wi, if_neg (fun q => hc q.1)]
  · have d1 : decide (0 ≤ x ∧ x ≤ 255) = false := by simp; omega
    rw [if_pos d1, if_pos d1, if_pos c1]
    exact ⟨iZ_n1, hR, fun c _ => rfl⟩
theorem Rr.up {M : gM} {b i : Nat} {r : Nat → Int} {x : Int} (hR : Rr M b r) : Rr (g_wi M (b + 2) i (iZ x)) b (va_up r i x) := fun j hj => by
  rw [mi_wi]
  by_cases h : j = i
  · subst h; rw [if_pos ⟨rfl, rfl⟩, up_eq]
  · rw [if_neg (fun q => h q.2), up_ne h]; exact hR j hj
theorem side_9 {M : gM} {b : Nat} {r : Nat → Int} {x : Int} (hV : Vk r) (hR : Rr M b r) (b1 : -2147483648 ≤ x) (b2 : x < 2147483648) : fX9_setsSide M b (iZ x) = iZ (sideA r x).1 ∧ Rr (mX9_setsSide M b (iZ x)) b (sideA r x).2 ∧ Fp (fun c => c = b + 2) M (mX9_setsSide M b (iZ x)) := by
  obtain ⟨v1, v2, v3, v4, v5, v6, v7, v8, v9, v10⟩ := hV
  unfold fX9_setsSide mX9_setsSide sideA
  rw [hR 31 (by omega), iZ_l2, iZ_l20, lies_9 (l := 2) (h := 20) b1 b2 (by decide) (by decide) (by decide) (by decide)]
  simp only [iB_0, iZ_eq (show -2147483648 ≤ r 31 by omega) (show r 31 < 2147483648 by omega) b1 b2]
  by_cases c1 : 2 ≤ x ∧ x ≤ 20
  · have d1 : ¬ decide (2 ≤ x ∧ x ≤ 20) = false := by simp; omega
    rw [if_neg d1, if_neg d1, if_neg (show ¬ (¬ (2 ≤ x ∧ x ≤ 20)) from fun q => q c1)]
    by_cases c3 : x = r 31
    · rw [if_pos c3.symm, if_pos c3.symm, if_pos c3]
      exact ⟨iZ_m3, hR, fun c _ => rfl⟩
    · have c4 : ¬ r 31 = x := fun q => c3 q.symm
      rw [if_neg c4, if_neg c4, if_neg c3]
      exact ⟨rfl, fun j hj => Rr.up hR j hj, fun c hc => Fp.wi (P := fun c => c = b + 2) Fp.rf rfl c hc⟩
  · have d1 : decide (2 ≤ x ∧ x ≤ 20) = false := by simp; omega
    rw [if_pos d1, if_pos d1, if_pos c1]
    exact ⟨iZ_n1, hR, fun c _ => rfl⟩
theorem seed_9 {M : gM} {b : Nat} {r : Nat → Int} {x : Int} (hV : Vk r) (hR : Rr M b r) (b1 : -2147483648 ≤ x) (b2 : x < 2147483648) : EX9_setsSeed M b (iZ x) ∧ fX9_setsSeed M b (iZ x) = iZ (seedA r x).1 ∧ Rr (mX9_setsSeed M b (iZ x)) b (seedA r x).2 ∧ Fp (fun c => c = b + 2) M (mX9_setsSeed M b (iZ x)) := by
  obtain ⟨v1, v2, v3, v4, v5, v6, v7, v8, v9, v10⟩ := hV
  unfold fX9_setsSeed mX9_setsSeed seedA
  rw [hR 32 (by omega), isSeed_9 b1 b2]
  simp only [iB_0, iZ_eq (show -2147483648 ≤ r 32 by omega) (show r 32 < 2147483648 by omega) b1 b2]
  refine ⟨EisSeed_9 b1 b2, ?_⟩
  by_cases c1 : 0 ≤ x ∧ x ≤ 255
  · have d1 : ¬ decide (0 ≤ x ∧ x ≤ 255) = false := by simp; omega
    rw [if_neg d1, if_neg d1, if_neg (show ¬ (¬ (0 ≤ x ∧ x ≤ 255)) from fun q => q c1)]
    by_cases c3 : x = r 32
    · rw [if_pos c3.symm, if_pos c3.symm, if_pos c3]
      exact ⟨iZ_m3, hR, fun c _ => rfl⟩
    · have c4 : ¬ r 32 = x := fun q => c3 q.symm
      rw [if_neg c4, if_neg c4, if_neg c3]
      exact ⟨rfl, fun j hj => Rr.up hR j hj, fun c hc => Fp.wi (P := fun c => c = b + 2) Fp.rf rfl c hc⟩
  · have d1 : decide (0 ≤ x ∧ x ≤ 255) = false := by simp; omega
    rw [if_pos d1, if_pos d1, if_pos c1]
    exact ⟨iZ_n1, hR, fun c _ => rfl⟩
