/-! Rows: what a State tells, as the reference's row has it (whole numbers). -/
/-- the vertex of a key in part j -/
def vx (k j s d : Int) : Int := j * d + (k * (j * 114 + 377) + s * (j * 50 + 101) + j * 5) % 1009 % d
theorem vx_rm {a d : Int} (h0 : 0 ≤ a) (h1 : a < 2147483648) (h2 : 2 ≤ d) (h3 : d ≤ 20) : i_rm (i_rm (iZ a) (iZ 1009)) (iZ d) = iZ (a % 1009 % d) := by
  have e1 := Int.emod_nonneg a (show (1009 : Int) ≠ 0 by decide)
  have e2 := Int.emod_lt_of_pos a (show (0 : Int) < 1009 by decide)
  rw [iZ_rm (by omega) (by omega) (by omega) (by omega), Int.tmod_eq_emod_of_nonneg h0, iZ_rm (by omega) (by omega) (by omega) (by omega), Int.tmod_eq_emod_of_nonneg e1]
theorem vx_9 {k j s d : Int} (k0 : 0 ≤ k) (k1 : k ≤ 1275) (j0 : 0 ≤ j) (j1 : j ≤ 2) (s0 : 0 ≤ s) (s1 : s ≤ 255) (d0 : 2 ≤ d) (d1 : d ≤ 20) : fX9_vertexOf (iZ k) (iZ j) (iZ s) (iZ d) = iZ (vx k j s d) := by
  unfold fX9_vertexOf vx
  rw [iZ_l1009]
  simp only [iZ_l0, iZ_l1, iZ_l2, iZ_l3, iZ_l4, iZ_l5, iZ_l6, iZ_l7, iZ_l8, iZ_l9, iZ_l10, iZ_l11, iZ_l12, iZ_l13, iZ_l14, iZ_l15, iZ_l16, iZ_l17, iZ_l18, iZ_l19, iZ_l20, iZ_l21, iZ_l22, iZ_l23, iZ_l24, iZ_l25, iZ_l29, iZ_l30, iZ_l31, iZ_l32, iZ_l39, iZ_l40, iZ_l48, iZ_l49, iZ_l50, iZ_l57, iZ_l59, iZ_l60, iZ_l63, iZ_l64, iZ_l78, iZ_l90, iZ_l97, iZ_l99, iZ_l100, iZ_l101, iZ_l122, iZ_l113, iZ_l114, iZ_l128, iZ_l187, iZ_l188, iZ_l200, iZ_l255, iZ_l256, iZ_l300, iZ_l301, iZ_l302, iZ_l303, iZ_l304, iZ_l306, iZ_l338, iZ_l359, iZ_l377, iZ_l378, iZ_l400, iZ_l401, iZ_l460, iZ_l999, iZ_l1000, iZ_l1001, iZ_l1009, iZ_l1000000, iZ_l1000003, iZ_l1000000000, iZ_l2147483647, iZ_mul, iZ_add]
  rcases (by omega : j = 0 ∨ j = 1 ∨ j = 2) with e | e | e <;> subst e <;> rw [vx_rm (by omega) (by omega) d0 d1, iZ_add]
theorem vx_8 {k j s d : Int} (k0 : 0 ≤ k) (k1 : k ≤ 1275) (j0 : 0 ≤ j) (j1 : j ≤ 2) (s0 : 0 ≤ s) (s1 : s ≤ 255) (d0 : 2 ≤ d) (d1 : d ≤ 20) : fX8_vertexOf (iZ k) (iZ j) (iZ s) (iZ d) = iZ (vx k j s d) := by
  rw [← vx_9 k0 k1 j0 j1 s0 s1 d0 d1]
  unfold fX8_vertexOf fX9_vertexOf
  rw [if_pos (by rw [iZ_l1, iZ_le (by omega) (by omega) (by omega) (by omega)]; omega)]
theorem vx_E8 {M : gM} {k j s d : Int} (d0 : 2 ≤ d) (d1 : d ≤ 20) : EX8_vertexOf M (iZ k) (iZ j) (iZ s) (iZ d) := by
  intro _
  rw [iZ_l0, iZ_eq (by omega) (by omega) (by omega) (by omega)]
  omega
theorem vx_E9 {M : gM} {k j s d : Int} (d0 : 2 ≤ d) (d1 : d ≤ 20) : EX9_vertexOf M (iZ k) (iZ j) (iZ s) (iZ d) := by
  unfold EX9_vertexOf
  rw [iZ_l0, iZ_eq (by omega) (by omega) (by omega) (by omega)]
  omega
theorem vx_b {k j s d : Int} (d0 : 2 ≤ d) : j * d ≤ vx k j s d ∧ vx k j s d < j * d + d := by
  unfold vx
  have e1 := Int.emod_nonneg ((k * (j * 114 + 377) + s * (j * 50 + 101) + j * 5) % 1009) (show d ≠ 0 by omega)
  have e2 := Int.emod_lt_of_pos ((k * (j * 114 + 377) + s * (j * 50 + 101) + j * 5) % 1009) (show 0 < d by omega)
  omega
theorem vx_n {k j s d : Int} (j0 : 0 ≤ j) (j1 : j ≤ 2) (d0 : 2 ≤ d) (d1 : d ≤ 20) : 0 ≤ vx k j s d ∧ vx k j s d < 3 * d ∧ vx k j s d < 60 := by
  have h := vx_b (k := k) (j := j) (s := s) d0
  rcases (by omega : j = 0 ∨ j = 1 ∨ j = 2) with e | e | e <;> subst e <;> omega
/-- which part a vertex is in -/
theorem vx_q {k j s d v : Int} (j0 : 0 ≤ j) (j1 : j ≤ 2) (d0 : 2 ≤ d) (h : vx k j s d = v) : v.tdiv d = j := by
  have hb := vx_b (k := k) (j := j) (s := s) d0
  have h0 : 0 ≤ v := by
    rcases (by omega : j = 0 ∨ j = 1 ∨ j = 2) with e | e | e <;> subst e <;> omega
  rw [Int.tdiv_eq_ediv_of_nonneg h0]
  subst h
  rw [show vx k j s d = (vx k j s d - j * d) + j * d by omega, Int.add_mul_ediv_right _ _ (by omega), Int.ediv_eq_zero_of_lt (by omega) (by omega)]
  omega
/-- whether a key has a vertex -/
def hv (k v s d : Int) : Bool := decide (vx k 0 s d = v) || decide (vx k 1 s d = v) || decide (vx k 2 s d = v)
theorem hv_part {k v s d : Int} (v0 : 0 ≤ v) (v1 : v < 3 * d) (d0 : 2 ≤ d) : hv k v s d = decide (vx k (v.tdiv d) s d = v) := by
  have q0 := fun h => vx_q (k := k) (s := s) (v := v) (j := 0) (by omega) (by omega) d0 h
  have q1 := fun h => vx_q (k := k) (s := s) (v := v) (j := 1) (by omega) (by omega) d0 h
  have q2 := fun h => vx_q (k := k) (s := s) (v := v) (j := 2) (by omega) (by omega) d0 h
  have hd : 0 ≤ v.tdiv d ∧ v.tdiv d ≤ 2 := by
    rw [Int.tdiv_eq_ediv_of_nonneg v0]
    exact ⟨Int.ediv_nonneg v0 (by omega), Int.lt_add_one_iff.mp (Int.ediv_lt_of_lt_mul (by omega) (by omega))⟩
  unfold hv
  rcases (by omega : v.tdiv d = 0 ∨ v.tdiv d = 1 ∨ v.tdiv d = 2) with e | e | e
  · rw [e]
    have n1 : ¬ vx k 1 s d = v := fun h => by have := q1 h; omega
    have n2 : ¬ vx k 2 s d = v := fun h => by have := q2 h; omega
    simp [n1, n2]
  · rw [e]
    have n1 : ¬ vx k 0 s d = v := fun h => by have := q0 h; omega
    have n2 : ¬ vx k 2 s d = v := fun h => by have := q2 h; omega
    simp [n1, n2]
  · rw [e]
    have n1 : ¬ vx k 0 s d = v := fun h => by have := q0 h; omega
    have n2 : ¬ vx k 1 s d = v := fun h => by have := q1 h; omega
    simp [n1, n2]
/-- a row that can be: keys rising, side, seed, the table, the time -/
def Vk (r : Nat → Int) : Prop := 0 ≤ r 0 ∧ r 0 ≤ 30 ∧ (∀ i : Nat, (i : Int) < r 0 → 0 ≤ r (1 + i) ∧ r (1 + i) ≤ 999) ∧ (∀ i j : Nat, i < j → (j : Int) < r 0 → r (1 + i) < r (1 + j)) ∧ 2 ≤ r 31 ∧ r 31 ≤ 20 ∧ 0 ≤ r 32 ∧ r 32 ≤ 255 ∧ 0 ≤ r 187 ∧ r 187 ≤ 999
def Vt (r : Nat → Int) : Prop := (r 33 = 0 ∨ r 33 = 1) ∧ (r 33 = 1 → 2 ≤ r 34 ∧ r 34 ≤ 20 ∧ 0 ≤ r 35 ∧ r 35 ≤ 255 ∧ 0 ≤ r 36 ∧ r 36 ≤ 30 ∧ (∀ i : Nat, (i : Int) < r 36 → 0 ≤ r (37 + i) ∧ r (37 + i) ≤ 999) ∧ (∀ v : Nat, v < 60 → 0 ≤ r (67 + v) ∧ r (67 + v) ≤ 3) ∧ ∀ v : Nat, v < 60 → 0 ≤ r (127 + v) ∧ r (127 + v) ≤ 29)
/-- the class's State at a shows the row r: its keys, side, seed, time -/
def Rk (M : gM) (a : Nat) (r : Nat → Int) : Prop := g_mi M a 3 = iZ (r 0) ∧ (∀ i : Nat, (i : Int) < r 0 → g_mi M (a + 1) i = iZ (r (1 + i))) ∧ g_mi M a 4 = iZ (r 31) ∧ g_mi M a 5 = iZ (r 32) ∧ g_mi M (a + 2) 0 = iZ (r 187)
/-- its table (at t) -/
def Rt (M : gM) (t : Nat) (r : Nat → Int) : Prop := g_mi M t 3 = iZ (r 33) ∧ (r 33 = 1 → g_mi M t 5 = iZ (r 34) ∧ g_mi M t 6 = iZ (r 35) ∧ g_mi M t 4 = iZ (r 36) ∧ (∀ i : Nat, (i : Int) < r 36 → g_mi M (t + 1) i = iZ (r (37 + i))) ∧ (∀ v : Nat, v < 60 → g_mi M (t + 2) v = iZ (r (67 + v))) ∧ ∀ v : Nat, v < 60 → g_mi M (t + 3) v = iZ (r (127 + v)))
/-- the reference's row -/
def Rr (M : gM) (b : Nat) (r : Nat → Int) : Prop := ∀ i, i < 5812 → g_mi M (b + 2) i = iZ (r i)
/-- how many keys are lower -/
def lo (r : Nat → Int) (k : Int) : Nat := cnt (fun i => decide (r (1 + i) < k)) (r 0).toNat
theorem lo_le (r : Nat → Int) (k : Int) (h : 0 ≤ r 0) : (lo r k : Int) ≤ r 0 := by
  have := cnt_le (fun i => decide (r (1 + i) < k)) (r 0).toNat
  unfold lo
  omega
theorem lo_at {r : Nat → Int} {k : Int} {i : Nat} (hV : Vk r) (hi : (i : Int) ≤ r 0) (h1 : ∀ j, j < i → r (1 + j) < k) (h2 : (i : Int) < r 0 → k ≤ r (1 + i)) : lo r k = i := by
  refine cnt_pre (by omega) (fun j hj => ?_)
  simp only [decide_eq_true_eq]
  constructor
  · intro hlt
    rcases Nat.lt_or_ge j i with h | h
    · exact h
    · exfalso
      have h3 := h2 (by omega)
      rcases Nat.lt_or_ge i j with h4 | h4
      · have := hV.2.2.2.1 i j h4 (by omega); omega
      · have e : i = j := by omega
        subst e; omega
  · exact fun h => h1 j h
theorem lo_8l {N : Nat} {M : gM} {a : Nat} {r : Nat → Int} {k : Int} (hV : Vk r) (hR : Rk M a r) (b1 : -2147483648 ≤ k) (b2 : k < 2147483648) : ∀ (n i : Nat), (i : Int) ≤ r 0 → r 0 - i < n → (∀ j, j < i → r (1 + j) < k) → vX3_lowerThan N M n 0 a (iZ k) (iZ i) (iZ i) ∧ wX3_lowerThan N M n 0 a (iZ k) (iZ i) (iZ i) = iZ (lo r k) := by
  obtain ⟨r1, r2, r3, r4, r5⟩ := hR
  have v1 := hV.1
  have v2 := hV.2.1
  have v3 := hV.2.2.1
  intro n
  induction n with
  | zero => intro i h1 h2; omega
  | succ n ih =>
    intro i h1 h2 h3
    rw [vX3_lowerThan, wX3_lowerThan]
    unfold eX3_lowerThan_4 bX3_lowerThan_4
    rw [r1]
    have e1 : iZ (i : Int) + 1 = iZ ((i + 1 : Nat) : Int) := by rw [iZ_l1, iZ_add]; rfl
    by_cases c1 : r 0 ≤ i
    · have c1' : iZ (r 0) ≤ iZ i := by rw [iZ_le (by omega) (by omega) (by omega) (by omega)]; exact c1
      simp only [if_pos c1']
      exact ⟨⟨fun q => absurd c1' q, trivial⟩, by rw [lo_at hV h1 h3 (fun q => by omega)]⟩
    · have c1' : ¬ iZ (r 0) ≤ iZ i := by rw [iZ_le (by omega) (by omega) (by omega) (by omega)]; exact c1
      have v4 := v3 i (by omega)
      rw [iZ_nat (by omega) (by omega), show (i : Int).toNat = i from rfl, r2 i (by omega)]
      simp only [if_neg c1', e1]
      by_cases c2 : k ≤ r (1 + i)
      · have c2' : iZ k ≤ iZ (r (1 + i)) := by rw [iZ_le (by omega) (by omega) (by omega) (by omega)]; exact c2
        simp only [if_pos c2']
        exact ⟨⟨fun _ => iZ_in (by omega) (by omega) (by omega), trivial⟩, by rw [lo_at hV h1 h3 (fun _ => c2)]⟩
      · have c2' : ¬ iZ k ≤ iZ (r (1 + i)) := by rw [iZ_le (by omega) (by omega) (by omega) (by omega)]; exact c2
        simp only [if_neg c2']
        obtain ⟨q1, q2⟩ := ih (i + 1) (by omega) (by omega) (fun j hj => by
          rcases Nat.lt_or_ge j i with h | h
          · exact h3 j h
          · have e : j = i := by omega
            subst e; omega)
        exact ⟨⟨fun _ => iZ_in (by omega) (by omega) (by omega), q1⟩, q2⟩
theorem lo_8 {N : Nat} {M : gM} {a : Nat} {r : Nat → Int} {k : Int} (hN : 100 ≤ N) (hV : Vk r) (hR : Rk M a r) (b1 : -2147483648 ≤ k) (b2 : k < 2147483648) : EX3_lowerThan N M a (iZ k) ∧ fX3_lowerThan N M a (iZ k) = iZ (lo r k) := by
  have v1 := hV.1
  have v2 := hV.2.1
  exact lo_8l hV hR b1 b2 N 0 (by omega) (by omega) (fun j hj => by omega)
theorem ka_9 {M : gM} {b : Nat} {r : Nat → Int} {i : Nat} (hR : Rr M b r) (hi : i < 60) : EX9_keyAt M b (iZ i) ∧ fX9_keyAt M b (iZ i) = iZ (r (1 + i)) := by
  unfold EX9_keyAt fX9_keyAt
  rw [iZ_l1, iZ_add]
  refine ⟨iZ_in (by omega) (by omega) (by omega), ?_⟩
  rw [iZ_nat (by omega) (by omega), show (1 + (i : Int)).toNat = 1 + i by omega]
  exact hR _ (by omega)
theorem lo_9l {N : Nat} {M : gM} {b : Nat} {r : Nat → Int} {k : Int} (hV : Vk r) (hR : Rr M b r) (b1 : -2147483648 ≤ k) (b2 : k < 2147483648) : ∀ (n i : Nat), (i : Int) ≤ r 0 → r 0 - i < n → vX9_lowerMany N M n 0 b (iZ k) (iZ (cnt (fun i => decide (r (1 + i) < k)) i)) (iZ i) ∧ wX9_lowerMany N M n 0 b (iZ k) (iZ (cnt (fun i => decide (r (1 + i) < k)) i)) (iZ i) = iZ (lo r k) := by
  have v1 := hV.1
  have v2 := hV.2.1
  have v3 := hV.2.2.1
  intro n
  induction n with
  | zero => intro i h1 h2; omega
  | succ n ih =>
    intro i h1 h2
    rw [vX9_lowerMany, wX9_lowerMany]
    unfold eX9_lowerMany_4 bX9_lowerMany_4
    rw [hR 0 (by omega)]
    have e1 : iZ (i : Int) + 1 = iZ ((i + 1 : Nat) : Int) := by rw [iZ_l1, iZ_add]; rfl
    by_cases c1 : r 0 ≤ i
    · have c1' : iZ (r 0) ≤ iZ i := by rw [iZ_le (by omega) (by omega) (by omega) (by omega)]; exact c1
      simp only [if_pos c1']
      refine ⟨⟨fun q => absurd c1' q, trivial⟩, ?_⟩
      unfold lo
      rw [show (r 0).toNat = i by omega]
    · have c1' : ¬ iZ (r 0) ≤ iZ i := by rw [iZ_le (by omega) (by omega) (by omega) (by omega)]; exact c1
      have v4 := v3 i (by omega)
      obtain ⟨k1, k2⟩ := ka_9 (i := i) hR (by omega)
      rw [k2]
      simp only [if_neg c1', e1]
      obtain ⟨q1, q2⟩ := ih (i + 1) (by omega) (by omega)
      rw [cnt] at q1 q2
      by_cases c2 : k ≤ r (1 + i)
      · have c2' : iZ k ≤ iZ (r (1 + i)) := by rw [iZ_le (by omega) (by omega) (by omega) (by omega)]; exact c2
        rw [if_neg (by simpa using c2)] at q1 q2
        simp only [if_pos c2', iZ_l0, iZ_add]
        exact ⟨⟨fun _ => k1, q1⟩, q2⟩
      · have c2' : ¬ iZ k ≤ iZ (r (1 + i)) := by rw [iZ_le (by omega) (by omega) (by omega) (by omega)]; exact c2
        rw [if_pos (by simp; omega)] at q1 q2
        simp only [if_neg c2', iZ_l1, iZ_add]
        exact ⟨⟨fun _ => k1, q1⟩, q2⟩
theorem lo_9 {N : Nat} {M : gM} {b : Nat} {r : Nat → Int} {k : Int} (hN : 100 ≤ N) (hV : Vk r) (hR : Rr M b r) (b1 : -2147483648 ≤ k) (b2 : k < 2147483648) : EX9_lowerMany N M b (iZ k) ∧ fX9_lowerMany N M b (iZ k) = iZ (lo r k) := by
  have v1 := hV.1
  have v2 := hV.2.1
  exact lo_9l hV hR b1 b2 N 0 (by omega) (by omega)
