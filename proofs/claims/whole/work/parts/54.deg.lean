/-! Degrees on both sides. -/
/-- the degree of a vertex by a seed and a side, of the row's keys -/
def dg (r : Nat → Int) (v s d : Int) : Nat := cnt (fun i => hv (r (1 + i)) v s d) (r 0).toNat
theorem hasV_8 {M : gM} {a : Nat} {r : Nat → Int} {v : Int} (hV : Vk r) (hR : Rk M a r) (b1 : -2147483648 ≤ v) (b2 : v < 2147483648) : fX3_hasVertex M a (iZ v) = iB (decide (0 ≤ v ∧ v < 3 * r 31)) := by
  obtain ⟨v1, v2, v3, v4, v5, v6, v7, v8, v9, v10⟩ := hV
  unfold fX3_hasVertex iB
  rw [hR.2.2.1, iZ_l3, iZ_mul]
  simp only [iZ_l0, iZ_lt b1 b2 (show -2147483648 ≤ 0 by decide) (show (0 : Int) < 2147483648 by decide), iZ_le (show -2147483648 ≤ 3 * r 31 by omega) (show 3 * r 31 < 2147483648 by omega) b1 b2, decide_eq_true_eq]
  split
  · rw [if_neg (by omega)]
  · split
    · rw [if_neg (by omega)]
    · rw [if_pos (by omega)]
theorem keyHas_8 {M : gM} {a : Nat} {r : Nat → Int} {k v : Int} (hV : Vk r) (hR : Rk M a r) (k0 : 0 ≤ k) (k1 : k ≤ 999) (b1 : -2147483648 ≤ v) (b2 : v < 2147483648) : EX3_keyHas M a (iZ k) (iZ v) ∧ fX3_keyHas M a (iZ k) (iZ v) = iB (decide (0 ≤ v ∧ v < 3 * r 31) && hv k v (r 32) (r 31)) := by
  have e := hasV_8 hV hR b1 b2
  obtain ⟨v1, v2, v3, v4, v5, v6, v7, v8, v9, v10⟩ := hV
  unfold EX3_keyHas fX3_keyHas
  rw [e, hR.2.2.1, hR.2.2.2.1]
  have n1 : ¬ iZ (r 31) ≤ 0 := by rw [iZ_l0, iZ_le (by omega) (by omega) (by omega) (by omega)]; omega
  have n2 : ¬ iZ (r 31) = 0 := by rw [iZ_l0, iZ_eq (by omega) (by omega) (by omega) (by omega)]; omega
  simp only [iB_0, if_neg n1]
  by_cases c : 0 ≤ v ∧ v < 3 * r 31
  · have d1 : ¬ decide (0 ≤ v ∧ v < 3 * r 31) = false := by simp; omega
    have d2 : decide (0 ≤ v ∧ v < 3 * r 31) = true := by simp; omega
    have hd : 0 ≤ v.tdiv (r 31) ∧ v.tdiv (r 31) ≤ 2 := by
      rw [Int.tdiv_eq_ediv_of_nonneg c.1]
      exact ⟨Int.ediv_nonneg c.1 (by omega), Int.lt_add_one_iff.mp (Int.ediv_lt_of_lt_mul (by omega) (by omega))⟩
    rw [iZ_div b1 b2 (by omega) (by omega), vx_8 k0 (by omega) hd.1 hd.2 v7 v8 v5 v6]
    refine ⟨⟨fun _ _ => n2, fun _ _ => vx_E8 v5 v6⟩, ?_⟩
    rw [if_neg d1, d2, Bool.true_and, hv_part c.1 c.2 v5]
    have hb := vx_n (k := k) (s := r 32) hd.1 hd.2 v5 v6
    simp only [iZ_eq (show -2147483648 ≤ vx k (v.tdiv (r 31)) (r 32) (r 31) by omega) (show vx k (v.tdiv (r 31)) (r 32) (r 31) < 2147483648 by omega) b1 b2]
    unfold iB
    simp only [decide_eq_true_eq]
  · have d1 : decide (0 ≤ v ∧ v < 3 * r 31) = false := by simp; omega
    refine ⟨⟨fun q => absurd d1 q, fun q => absurd d1 q⟩, ?_⟩
    rw [if_pos d1, d1, Bool.false_and]; rfl
theorem hv_9 {N : Nat} {M : gM} {k v s d : Int} (hN : 100 ≤ N) (k0 : 0 ≤ k) (k1 : k ≤ 999) (b1 : -2147483648 ≤ v) (b2 : v < 2147483648) (s0 : 0 ≤ s) (s1 : s ≤ 255) (d0 : 2 ≤ d) (d1 : d ≤ 20) : EX9_hasVertex N M (iZ k) (iZ v) (iZ s) (iZ d) ∧ fX9_hasVertex N M (iZ k) (iZ v) (iZ s) (iZ d) = iB (hv k v s d) := by
  obtain ⟨n, rfl⟩ : ∃ n, N = n + 4 := ⟨N - 4, by omega⟩
  unfold EX9_hasVertex eX9_hasVertex_0 fX9_hasVertex bX9_hasVertex_0
  have x0 := vx_n (k := k) (s := s) (j := 0) (by omega) (by omega) d0 d1
  have x1 := vx_n (k := k) (s := s) (j := 1) (by omega) (by omega) d0 d1
  have x2 := vx_n (k := k) (s := s) (j := 2) (by omega) (by omega) d0 d1
  have t0 : ∀ j : Int, 0 ≤ j → j ≤ 2 → ¬ (3 : Int32) ≤ iZ j := fun j h1 h2 => by rw [iZ_l3, iZ_le (by omega) (by omega) (by omega) (by omega)]; omega
  have t3 : (3 : Int32) ≤ iZ 3 := by rw [iZ_l3]; exact Int32.le_refl _
  have a1 : iZ 0 + 1 = iZ 1 := by rw [iZ_l1, iZ_add]; rfl
  have a2 : iZ 1 + 1 = iZ 2 := by rw [iZ_l1, iZ_add]; rfl
  have a3 : iZ 2 + 1 = iZ 3 := by rw [iZ_l1, iZ_add]; rfl
  have z10 : ¬ (1 : Int32) = 0 := by decide
  rw [show vX9_hasVertex (n + 4) M (n + 4) 0 (iZ k) (iZ v) (iZ s) (iZ d) 0 0 = vX9_hasVertex (n + 4) M (n + 4) 0 (iZ k) (iZ v) (iZ s) (iZ d) 0 (iZ 0) from rfl, show wX9_hasVertex (n + 4) M (n + 4) 0 (iZ k) (iZ v) (iZ s) (iZ d) 0 0 = wX9_hasVertex (n + 4) M (n + 4) 0 (iZ k) (iZ v) (iZ s) (iZ d) 0 (iZ 0) from rfl]
  have E := fun j => vx_E9 (M := M) (k := k) (j := j) (s := s) d0 d1
  have f0 := vx_9 (j := 0) k0 (show k ≤ 1275 by omega) (by omega) (by omega) s0 s1 d0 d1
  have f1 := vx_9 (j := 1) k0 (show k ≤ 1275 by omega) (by omega) (by omega) s0 s1 d0 d1
  have f2 := vx_9 (j := 2) k0 (show k ≤ 1275 by omega) (by omega) (by omega) s0 s1 d0 d1
  have q0 := iZ_eq (a := vx k 0 s d) (b := v) (by omega) (by omega) b1 b2
  have q1 := iZ_eq (a := vx k 1 s d) (b := v) (by omega) (by omega) b1 b2
  have q2 := iZ_eq (a := vx k 2 s d) (b := v) (by omega) (by omega) b1 b2
  simp only [vX9_hasVertex, wX9_hasVertex, eX9_hasVertex_6, bX9_hasVertex_6, if_neg (t0 0 (by omega) (by omega)), if_neg (t0 1 (by omega) (by omega)), if_neg (t0 2 (by omega) (by omega)), if_pos t3, a1, a2, a3, f0, f1, f2, q0, q1, q2, if_neg z10, if_true, E, implies_true, true_and, and_true]
  unfold hv iB
  by_cases h0 : vx k 0 s d = v <;> by_cases h1 : vx k 1 s d = v <;> by_cases h2 : vx k 2 s d = v <;> simp [h0, h1, h2, E]
theorem dg_8l {N : Nat} {M : gM} {a : Nat} {r : Nat → Int} {v : Int} (hV : Vk r) (hR : Rk M a r) (b1 : 0 ≤ v) (b2 : v < 3 * r 31) : ∀ (n i : Nat), (i : Int) ≤ r 0 → r 0 - i < n → vX3_degreeOf N M n 0 a (iZ v) (iZ (cnt (fun i => hv (r (1 + i)) v (r 32) (r 31)) i)) (iZ i) ∧ wX3_degreeOf N M n 0 a (iZ v) (iZ (cnt (fun i => hv (r (1 + i)) v (r 32) (r 31)) i)) (iZ i) = iZ (dg r v (r 32) (r 31)) := by
  have hV0 := hV
  obtain ⟨v1, v2, v3, v4, v5, v6, v7, v8, v9, v10⟩ := hV0
  intro n
  induction n with
  | zero => intro i h1 h2; omega
  | succ n ih =>
    intro i h1 h2
    rw [vX3_degreeOf, wX3_degreeOf]
    unfold eX3_degreeOf_14 bX3_degreeOf_14
    rw [hR.1]
    by_cases c1 : r 0 ≤ i
    · have c1' : iZ (r 0) ≤ iZ i := by rw [iZ_le (by omega) (by omega) (by omega) (by omega)]; exact c1
      simp only [if_pos c1']
      refine ⟨⟨fun q => absurd c1' q, fun q => absurd c1' q, trivial⟩, ?_⟩
      unfold dg
      rw [show (r 0).toNat = i by omega]
    · have c1' : ¬ iZ (r 0) ≤ iZ i := by rw [iZ_le (by omega) (by omega) (by omega) (by omega)]; exact c1
      have v4 := v3 i (by omega)
      obtain ⟨k1, k2⟩ := keyHas_8 (k := r (1 + i)) (v := v) hV hR v4.1 v4.2 (by omega) (by omega)
      rw [iZ_cl (show i < 2147483648 by omega), hR.2.1 i (by omega), k2]
      simp only [if_neg c1', iZ_s1, iB_0]
      rw [show decide (0 ≤ v ∧ v < 3 * r 31) = true by simp; omega, Bool.true_and]
      obtain ⟨q1, q2⟩ := ih (i + 1) (by omega) (by omega)
      rw [cnt] at q1 q2
      cases hh : hv (r (1 + i)) v (r 32) (r 31) with
      | false =>
        rw [hh, if_neg (by decide)] at q1 q2
        simp only [if_true]
        exact ⟨⟨fun _ => iZ_in (by omega) (by omega) (by omega), fun _ => k1, q1⟩, q2⟩
      | true =>
        rw [hh, if_pos rfl] at q1 q2
        simp only [Bool.true_eq_false, if_false, iZ_s1]
        exact ⟨⟨fun _ => iZ_in (by omega) (by omega) (by omega), fun _ => k1, q1⟩, q2⟩
theorem dg_8 {N : Nat} {M : gM} {a : Nat} {r : Nat → Int} {v : Int} (hN : 100 ≤ N) (hV : Vk r) (hR : Rk M a r) (b1 : -2147483648 ≤ v) (b2 : v < 2147483648) : EX3_degreeOf N M a (iZ v) ∧ fX3_degreeOf N M a (iZ v) = iZ (if 0 ≤ v ∧ v < 3 * r 31 then (dg r v (r 32) (r 31) : Int) else -1) := by
  have e := hasV_8 hV hR b1 b2
  have v1 := hV.1
  have v2 := hV.2.1
  unfold EX3_degreeOf eX3_degreeOf_0 fX3_degreeOf bX3_degreeOf_0
  rw [e]
  simp only [iB_0]
  by_cases c : 0 ≤ v ∧ v < 3 * r 31
  · have d1 : ¬ decide (0 ≤ v ∧ v < 3 * r 31) = false := by simp; omega
    rw [if_neg d1, if_neg d1, if_pos c]
    exact dg_8l (N := N) hV hR c.1 c.2 N 0 (by omega) (by omega)
  · have d1 : decide (0 ≤ v ∧ v < 3 * r 31) = false := by simp; omega
    rw [if_pos d1, if_pos d1, if_neg c]
    exact ⟨trivial, iZ_n1⟩
theorem dg_9l {N : Nat} {M : gM} {b : Nat} {r : Nat → Int} {v s : Int} (hN : 100 ≤ N) (hV : Vk r) (hR : Rr M b r) (b1 : -2147483648 ≤ v) (b2 : v < 2147483648) (s0 : 0 ≤ s) (s1 : s ≤ 255) : ∀ (n i : Nat), (i : Int) ≤ r 0 → r 0 - i < n → vX9_degreeOf N M n 0 b (iZ v) (iZ s) (iZ (cnt (fun i => hv (r (1 + i)) v s (r 31)) i)) (iZ i) ∧ wX9_degreeOf N M n 0 b (iZ v) (iZ s) (iZ (cnt (fun i => hv (r (1 + i)) v s (r 31)) i)) (iZ i) = iZ (dg r v s (r 31)) := by
  have hV0 := hV
  obtain ⟨v1, v2, v3, v4, v5, v6, v7, v8, v9, v10⟩ := hV0
  intro n
  induction n with
  | zero => intro i h1 h2; omega
  | succ n ih =>
    intro i h1 h2
    rw [vX9_degreeOf, wX9_degreeOf]
    unfold eX9_degreeOf_5 bX9_degreeOf_5
    rw [hR 0 (by omega), hR 31 (by omega)]
    by_cases c1 : r 0 ≤ i
    · have c1' : iZ (r 0) ≤ iZ i := by rw [iZ_le (by omega) (by omega) (by omega) (by omega)]; exact c1
      simp only [if_pos c1']
      refine ⟨⟨fun q => absurd c1' q, fun q => absurd c1' q, trivial⟩, ?_⟩
      unfold dg
      rw [show (r 0).toNat = i by omega]
    · have c1' : ¬ iZ (r 0) ≤ iZ i := by rw [iZ_le (by omega) (by omega) (by omega) (by omega)]; exact c1
      have v4 := v3 i (by omega)
      obtain ⟨k1, k2⟩ := ka_9 (i := i) hR (by omega)
      obtain ⟨k3, k4⟩ := hv_9 (N := N) (M := M) (k := r (1 + i)) (v := v) (s := s) (d := r 31) hN v4.1 v4.2 b1 b2 s0 s1 v5 v6
      rw [k2, k4]
      simp only [if_neg c1', iZ_s1, iB_0]
      obtain ⟨q1, q2⟩ := ih (i + 1) (by omega) (by omega)
      rw [cnt] at q1 q2
      cases hh : hv (r (1 + i)) v s (r 31) with
      | false =>
        rw [hh, if_neg (by decide)] at q1 q2
        simp only [if_true, iZ_l0, iZ_add]
        exact ⟨⟨fun _ => k1, fun _ => k3, q1⟩, q2⟩
      | true =>
        rw [hh, if_pos rfl] at q1 q2
        simp only [Bool.true_eq_false, if_false, iZ_s1]
        exact ⟨⟨fun _ => k1, fun _ => k3, q1⟩, q2⟩
theorem dg_9 {N : Nat} {M : gM} {b : Nat} {r : Nat → Int} {v s : Int} (hN : 100 ≤ N) (hV : Vk r) (hR : Rr M b r) (b1 : -2147483648 ≤ v) (b2 : v < 2147483648) (s0 : 0 ≤ s) (s1 : s ≤ 255) : EX9_degreeOf N M b (iZ v) (iZ s) ∧ fX9_degreeOf N M b (iZ v) (iZ s) = iZ (dg r v s (r 31)) := by
  have v1 := hV.1
  have v2 := hV.2.1
  exact dg_9l hN hV hR b1 b2 s0 s1 N 0 (by omega) (by omega)
theorem isV_9 {M : gM} {b : Nat} {r : Nat → Int} {v : Int} (hV : Vk r) (hR : Rr M b r) (b1 : -2147483648 ≤ v) (b2 : v < 2147483648) : EX9_isVertex M b (iZ v) ∧ fX9_isVertex M b (iZ v) = iB (decide (0 ≤ v ∧ v < 3 * r 31)) := by
  obtain ⟨v1, v2, v3, v4, v5, v6, v7, v8, v9, v10⟩ := hV
  unfold EX9_isVertex fX9_isVertex fX9_vertexMany
  rw [hR 31 (by omega), iZ_l3, iZ_mul, iZ_l1, iZ_sub, iZ_l0, lies_9 (l := 0) (h := 3 * r 31 - 1) b1 b2 (by decide) (by decide) (by omega) (by omega)]
  rw [show decide (0 ≤ v ∧ v ≤ 3 * r 31 - 1) = decide (0 ≤ v ∧ v < 3 * r 31) from decide_eq_decide.mpr (by omega)]
  exact ⟨by first | exact iB_o | (have := @iB_o (decide (0 ≤ v ∧ v < 3 * r 31)); exact this), rfl⟩
