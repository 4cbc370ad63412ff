/-! Numbers: ints as whole numbers; counting. -/
def iZ (n : Int) : Int32 := Int32.ofInt n
theorem iZ_add (a b : Int) : iZ a + iZ b = iZ (a + b) := (Int32.ofInt_add a b).symm
theorem iZ_sub (a b : Int) : iZ a - iZ b = iZ (a - b) := (Int32.ofInt_sub a b).symm
theorem iZ_mul (a b : Int) : iZ a * iZ b = iZ (a * b) := (Int32.ofInt_mul a b).symm
theorem iZ_neg (a : Int) : - iZ a = iZ (-a) := (Int32.ofInt_neg a).symm
theorem iZ_to (x : Int32) : x = iZ x.toInt := (Int32.ofInt_toInt x).symm
theorem iZ_ofNat (n : Nat) : Int32.ofNat n = iZ n := (Int32.ofInt_eq_ofNat).symm
theorem iZ_ti {a : Int} (h1 : -2147483648 ≤ a) (h2 : a < 2147483648) : (iZ a).toInt = a := Int32.toInt_ofInt_of_le (by omega) (by omega)
theorem iZ_b1 (x : Int32) : -2147483648 ≤ x.toInt := by have := x.le_toInt; omega
theorem iZ_b2 (x : Int32) : x.toInt < 2147483648 := by have := x.toInt_lt; omega
theorem iZ_lt {a b : Int} (h1 : -2147483648 ≤ a) (h2 : a < 2147483648) (h3 : -2147483648 ≤ b) (h4 : b < 2147483648) : (iZ a < iZ b) = (a < b) := by
  rw [Int32.lt_iff_toInt_lt, iZ_ti h1 h2, iZ_ti h3 h4]
theorem iZ_le {a b : Int} (h1 : -2147483648 ≤ a) (h2 : a < 2147483648) (h3 : -2147483648 ≤ b) (h4 : b < 2147483648) : (iZ a ≤ iZ b) = (a ≤ b) := by
  rw [Int32.le_iff_toInt_le, iZ_ti h1 h2, iZ_ti h3 h4]
theorem iZ_eq {a b : Int} (h1 : -2147483648 ≤ a) (h2 : a < 2147483648) (h3 : -2147483648 ≤ b) (h4 : b < 2147483648) : (iZ a = iZ b) = (a = b) := by
  rw [← Int32.toInt_inj, iZ_ti h1 h2, iZ_ti h3 h4]
theorem iZ_nat {a : Int} (h1 : -2147483648 ≤ a) (h2 : a < 2147483648) : (iZ a).toNatClampNeg = a.toNat := Int32.toNatClampNeg_ofInt_of_le (by omega) (by omega)
theorem iZ_div {a b : Int} (h1 : -2147483648 ≤ a) (h2 : a < 2147483648) (h3 : -2147483648 ≤ b) (h4 : b < 2147483648) : iZ a / iZ b = iZ (a.tdiv b) := by
  have e1 : Int32.minValue.toInt = -2147483648 := by decide
  have e2 : Int32.maxValue.toInt = 2147483647 := by decide
  exact (Int32.ofInt_tdiv (by omega) (by omega) (by omega) (by omega)).symm
theorem iZ_rm {a b : Int} (h1 : -2147483648 ≤ a) (h2 : a < 2147483648) (h3 : -2147483648 ≤ b) (h4 : b < 2147483648) : i_rm (iZ a) (iZ b) = iZ (a.tmod b) := by
  unfold i_rm
  rw [iZ_div h1 h2 h3 h4, iZ_mul, iZ_sub, Int.mul_comm, ← Int.tmod_def]
theorem iZ_in {a : Int} {n : Nat} (h1 : 0 ≤ a) (h2 : a < n) (h3 : a < 2147483648) : vp_in (iZ a) n := vp_in_iff.mpr (by rw [iZ_ti (by omega) h3]; exact ⟨h1, h2⟩)
theorem iZ_inp {a : Int} {n : Nat} (h1 : 0 ≤ a) (h2 : a < n) (h3 : a < 2147483648) : vp_in (iZ a) n = True := eq_true (iZ_in h1 h2 h3)
theorem iZ_l0 : (0 : Int32) = iZ 0 := rfl
theorem iZ_l1 : (1 : Int32) = iZ 1 := rfl
theorem iZ_l2 : (2 : Int32) = iZ 2 := rfl
theorem iZ_l3 : (3 : Int32) = iZ 3 := rfl
theorem iZ_l4 : (4 : Int32) = iZ 4 := rfl
theorem iZ_l5 : (5 : Int32) = iZ 5 := rfl
theorem iZ_l6 : (6 : Int32) = iZ 6 := rfl
theorem iZ_l7 : (7 : Int32) = iZ 7 := rfl
theorem iZ_l8 : (8 : Int32) = iZ 8 := rfl
theorem iZ_l9 : (9 : Int32) = iZ 9 := rfl
theorem iZ_l10 : (10 : Int32) = iZ 10 := rfl
theorem iZ_l11 : (11 : Int32) = iZ 11 := rfl
theorem iZ_l12 : (12 : Int32) = iZ 12 := rfl
theorem iZ_l13 : (13 : Int32) = iZ 13 := rfl
theorem iZ_l14 : (14 : Int32) = iZ 14 := rfl
theorem iZ_l15 : (15 : Int32) = iZ 15 := rfl
theorem iZ_l16 : (16 : Int32) = iZ 16 := rfl
theorem iZ_l17 : (17 : Int32) = iZ 17 := rfl
theorem iZ_l18 : (18 : Int32) = iZ 18 := rfl
theorem iZ_l19 : (19 : Int32) = iZ 19 := rfl
theorem iZ_l20 : (20 : Int32) = iZ 20 := rfl
theorem iZ_l21 : (21 : Int32) = iZ 21 := rfl
theorem iZ_l22 : (22 : Int32) = iZ 22 := rfl
theorem iZ_l23 : (23 : Int32) = iZ 23 := rfl
theorem iZ_l24 : (24 : Int32) = iZ 24 := rfl
theorem iZ_l25 : (25 : Int32) = iZ 25 := rfl
theorem iZ_l29 : (29 : Int32) = iZ 29 := rfl
theorem iZ_l30 : (30 : Int32) = iZ 30 := rfl
theorem iZ_l31 : (31 : Int32) = iZ 31 := rfl
theorem iZ_l32 : (32 : Int32) = iZ 32 := rfl
theorem iZ_l39 : (39 : Int32) = iZ 39 := rfl
theorem iZ_l40 : (40 : Int32) = iZ 40 := rfl
theorem iZ_l48 : (48 : Int32) = iZ 48 := rfl
theorem iZ_l49 : (49 : Int32) = iZ 49 := rfl
theorem iZ_l50 : (50 : Int32) = iZ 50 := rfl
theorem iZ_l57 : (57 : Int32) = iZ 57 := rfl
theorem iZ_l59 : (59 : Int32) = iZ 59 := rfl
theorem iZ_l60 : (60 : Int32) = iZ 60 := rfl
theorem iZ_l63 : (63 : Int32) = iZ 63 := rfl
theorem iZ_l64 : (64 : Int32) = iZ 64 := rfl
theorem iZ_l78 : (78 : Int32) = iZ 78 := rfl
theorem iZ_l90 : (90 : Int32) = iZ 90 := rfl
theorem iZ_l97 : (97 : Int32) = iZ 97 := rfl
theorem iZ_l99 : (99 : Int32) = iZ 99 := rfl
theorem iZ_l100 : (100 : Int32) = iZ 100 := rfl
theorem iZ_l101 : (101 : Int32) = iZ 101 := rfl
theorem iZ_l122 : (122 : Int32) = iZ 122 := rfl
theorem iZ_l113 : (113 : Int32) = iZ 113 := rfl
theorem iZ_l114 : (114 : Int32) = iZ 114 := rfl
theorem iZ_l128 : (128 : Int32) = iZ 128 := rfl
theorem iZ_l187 : (187 : Int32) = iZ 187 := rfl
theorem iZ_l188 : (188 : Int32) = iZ 188 := rfl
theorem iZ_l200 : (200 : Int32) = iZ 200 := rfl
theorem iZ_l255 : (255 : Int32) = iZ 255 := rfl
theorem iZ_l256 : (256 : Int32) = iZ 256 := rfl
theorem iZ_l300 : (300 : Int32) = iZ 300 := rfl
theorem iZ_l301 : (301 : Int32) = iZ 301 := rfl
theorem iZ_l302 : (302 : Int32) = iZ 302 := rfl
theorem iZ_l303 : (303 : Int32) = iZ 303 := rfl
theorem iZ_l304 : (304 : Int32) = iZ 304 := rfl
theorem iZ_l306 : (306 : Int32) = iZ 306 := rfl
theorem iZ_l338 : (338 : Int32) = iZ 338 := rfl
theorem iZ_l359 : (359 : Int32) = iZ 359 := rfl
theorem iZ_l377 : (377 : Int32) = iZ 377 := rfl
theorem iZ_l378 : (378 : Int32) = iZ 378 := rfl
theorem iZ_l400 : (400 : Int32) = iZ 400 := rfl
theorem iZ_l401 : (401 : Int32) = iZ 401 := rfl
theorem iZ_l460 : (460 : Int32) = iZ 460 := rfl
theorem iZ_l999 : (999 : Int32) = iZ 999 := rfl
theorem iZ_l1000 : (1000 : Int32) = iZ 1000 := rfl
theorem iZ_l1001 : (1001 : Int32) = iZ 1001 := rfl
theorem iZ_l1009 : (1009 : Int32) = iZ 1009 := rfl
theorem iZ_l1000000 : (1000000 : Int32) = iZ 1000000 := rfl
theorem iZ_l1000003 : (1000003 : Int32) = iZ 1000003 := rfl
theorem iZ_l1000000000 : (1000000000 : Int32) = iZ 1000000000 := rfl
theorem iZ_l2147483647 : (2147483647 : Int32) = iZ 2147483647 := rfl
theorem iZ_max {a b : Int} (h1 : -2147483648 ≤ a) (h2 : a < 2147483648) (h3 : -2147483648 ≤ b) (h4 : b < 2147483648) : i_max (iZ a) (iZ b) = iZ (if a < b then b else a) := by
  unfold i_max
  simp only [iZ_lt h1 h2 h3 h4]
  split <;> rfl
theorem iZ_min {a b : Int} (h1 : -2147483648 ≤ a) (h2 : a < 2147483648) (h3 : -2147483648 ≤ b) (h4 : b < 2147483648) : i_min (iZ a) (iZ b) = iZ (if b < a then b else a) := by
  unfold i_min
  simp only [iZ_lt h3 h4 h1 h2]
  split <;> rfl
theorem mi_wi (M : gM) (a i : Nat) (v : Int32) (b j : Nat) : g_mi (g_wi M a i v) b j = if b = a ∧ j = i then v else g_mi M b j := rfl
theorem mi_wm (M : gM) (f : Nat → Nat → Int32) (g : Nat → Nat → Int64) : g_mi (g_wm M f g) = f := rfl
theorem ml_wm (M : gM) (f : Nat → Nat → Int32) (g : Nat → Nat → Int64) : g_ml (g_wm M f g) = g := rfl
theorem mi_cp (M : gM) (a b sp dp n c j : Nat) : g_mi (g_cp M a b sp dp n) c j = if c = b then (if dp ≤ j ∧ j < dp + n then g_mi M a (sp + (j - dp)) else g_mi M b j) else g_mi M c j := by
  rw [g_mi_cp]
  unfold va_up va_cpy
  split <;> rfl
/-- how many below n -/
def cnt (p : Nat → Bool) : Nat → Nat
  | 0 => 0
  | n + 1 => cnt p n + (if p n = true then 1 else 0)
theorem cnt_le (p : Nat → Bool) (n : Nat) : cnt p n ≤ n := by
  induction n with
  | zero => exact Nat.le_refl _
  | succ n ih => rw [cnt]; split <;> omega
theorem cnt_congr {p q : Nat → Bool} {n : Nat} (h : ∀ i, i < n → p i = q i) : cnt p n = cnt q n := by
  induction n with
  | zero => rfl
  | succ n ih => rw [cnt, cnt, ih (fun i hi => h i (by omega)), h n (by omega)]
theorem cnt_pre {p : Nat → Bool} {n i : Nat} (hi : i ≤ n) (h : ∀ j, j < n → (p j = true ↔ j < i)) : cnt p n = i := by
  induction n generalizing i with
  | zero => rw [cnt]; omega
  | succ n ih =>
    rw [cnt]
    rcases Nat.lt_or_ge n i with hn | hn
    · have e := ih (i := n) (Nat.le_refl _) (fun j hj => by rw [h j (by omega)]; omega)
      rw [e, if_pos ((h n (by omega)).mpr hn)]; omega
    · have e := ih (i := i) hn (fun j hj => h j (by omega))
      rw [e, if_neg (fun q => by have := (h n (by omega)).mp q; omega)]; rfl
theorem cnt_mono {p q : Nat → Bool} {n : Nat} (h : ∀ i, i < n → p i = true → q i = true) : cnt p n ≤ cnt q n := by
  induction n with
  | zero => exact Nat.le_refl _
  | succ n ih =>
    rw [cnt, cnt]
    have := ih (fun i hi => h i (by omega))
    have h2 := h n (by omega)
    split
    · rename_i hp; rw [if_pos (h2 hp)]; omega
    · split <;> omega
theorem cnt_zero {p : Nat → Bool} {n : Nat} (h : cnt p n = 0) : ∀ i, i < n → p i = false := by
  induction n with
  | zero => intro i hi; omega
  | succ n ih =>
    rw [cnt] at h
    intro i hi
    rcases Nat.lt_or_ge i n with hn | hn
    · exact ih (by omega) i hn
    · have e : i = n := by omega
      subst e
      cases hp : p i with
      | false => rfl
      | true => rw [hp, if_pos rfl] at h; omega
theorem cnt_none {p : Nat → Bool} {n : Nat} (h : ∀ i, i < n → p i = false) : cnt p n = 0 := by
  induction n with
  | zero => rfl
  | succ n ih => rw [cnt, ih (fun i hi => h i (by omega)), h n (by omega)]; rfl
theorem cnt_pos {p : Nat → Bool} {n i : Nat} (hi : i < n) (h : p i = true) : 0 < cnt p n := by
  rcases Nat.eq_zero_or_pos (cnt p n) with e | e
  · have := cnt_zero e i hi; rw [h] at this; cases this
  · exact e
theorem cnt_ex {p : Nat → Bool} {n : Nat} (h : 0 < cnt p n) : ∃ i, i < n ∧ p i = true := by
  induction n with
  | zero => rw [cnt] at h; omega
  | succ n ih =>
    rw [cnt] at h
    cases hp : p n with
    | true => exact ⟨n, by omega, hp⟩
    | false =>
      rw [hp] at h
      obtain ⟨i, hi, hp⟩ := ih (by simpa using h)
      exact ⟨i, by omega, hp⟩
/-- one place changes from yes to no -/
theorem cnt_drop {p q : Nat → Bool} {n i : Nat} (hi : i < n) (hp : p i = true) (hq : q i = false) (h : ∀ j, j < n → j ≠ i → q j = p j) : cnt p n = cnt q n + 1 := by
  induction n with
  | zero => omega
  | succ n ih =>
    rw [cnt, cnt]
    rcases Nat.lt_or_ge i n with hn | hn
    · rw [ih hn (fun j hj => h j (by omega)), h n (by omega) (by omega)]; omega
    · have e : i = n := by omega
      subst e
      rw [cnt_congr (p := q) (q := p) (fun j hj => h j (by omega) (by omega)), hp, hq]; rfl
/-- Arrays.fill -/
theorem fill_loop (N : Nat) (M : gM) (a n : Nat) (x : Int32) (hn : n < 2147483648) : ∀ (k i : Nat) (f : Nat → Nat → Int32), i ≤ n → n - i < k → vJ7_fill_53178 N M k 0 f a n x (iZ i) (iZ n) ∧ (wJ7_fill_53178 N M k 0 f a n x (iZ i) (iZ n)).2 = fun b j => if b = a ∧ i ≤ j ∧ j < n then x else f b j := by
  intro k
  induction k with
  | zero => intro i f h1 h2; omega
  | succ k ih =>
    intro i f h1 h2
    rw [vJ7_fill_53178, wJ7_fill_53178]
    unfold eJ7_fill_53178_5 bJ7_fill_53178_5
    rcases Nat.lt_or_ge i n with hi | hi
    · have e : ¬ (iZ n ≤ iZ i) := by rw [iZ_le (by omega) (by omega) (by omega) (by omega)]; omega
      have e1 : iZ (i : Int) + 1 = iZ ((i + 1 : Nat) : Int) := by rw [iZ_l1, iZ_add]; rfl
      simp only [if_neg e, e1]
      obtain ⟨q1, q2⟩ := ih (i + 1) (g_mi (g_wi (g_wm M f (g_ml M)) a (iZ i).toNatClampNeg x)) (by omega) (by omega)
      refine ⟨⟨fun _ => iZ_in (by omega) (by omega) (by omega), q1⟩, ?_⟩
      rw [q2, iZ_nat (by omega) (by omega)]
      funext b j
      rw [mi_wi, mi_wm]
      by_cases hb : b = a
      · subst hb
        by_cases hj : j = i
        · subst hj; simp; omega
        · simp [hj]
          by_cases h3 : i ≤ j ∧ j < n
          · rw [if_pos (by omega), if_pos h3]
          · rw [if_neg (by omega), if_neg h3]
      · simp [hb]
    · have e : iZ n ≤ iZ i := by rw [iZ_le (by omega) (by omega) (by omega) (by omega)]; omega
      simp only [if_pos e]
      refine ⟨⟨fun q => absurd e q, trivial⟩, ?_⟩
      funext b j
      rw [mi_wm]
      split
      · omega
      · rfl
theorem fill_E {N : Nat} {M : gM} {a n : Nat} {x : Int32} (hn : n < 2147483648) (hN : n < N) : EJ7_fill_53178 N M a n x := by
  unfold EJ7_fill_53178 eJ7_fill_53178_0
  have e : Int32.ofNat n = iZ n := iZ_ofNat n
  rw [e]
  exact (fill_loop N M a n x hn N 0 (g_mi M) (by omega) (by omega)).1
theorem fill_m {N : Nat} {M : gM} {a n : Nat} {x : Int32} (hn : n < 2147483648) (hN : n < N) : mJ7_fill_53178 N M a n x = g_wm M (fun b j => if b = a ∧ j < n then x else g_mi M b j) (g_ml M) := by
  unfold mJ7_fill_53178 bJ7_fill_53178_0
  have e : Int32.ofNat n = iZ n := iZ_ofNat n
  rw [e]
  have := (fill_loop N M a n x hn N 0 (g_mi M) (by omega) (by omega)).2
  have e0 : (0 : Int32) = iZ ((0 : Nat) : Int) := rfl
  rw [e0, this]
  congr 1
  funext b j
  simp only [Nat.zero_le, true_and]
theorem tFill {X : gX} {d mc ms a n : Nat} {x : Int32} {Q : Option Value → gM → Prop} {M : gM} (hk : g_kd M a = some (100, n)) (hn : n < 2147483648) (hQ : ∀ M1, (∀ {lo hi : Nat}, a < lo ∨ hi ≤ a → Bl lo hi M M1) → g_nx M1 = g_nx M → (g_kd M1 a = some (100, n) ∧ ((∀ j, g_mr M1 a j = g_mr M a j) ∧ ∀ j, g_mi M1 a j = if j < n then x else g_mi M a j)) → Q none M1) : Cn X d mc ms kJ7_fill_53178 [.ref a, .int x] M Q := by
  refine tJ7_fill_53178 (N := n + 1) hk (fill_E hn (by omega)) ?_
  rw [fill_m hn (by omega)]
  refine hQ _ (fun {lo hi} h => fun b h1 h2 => ⟨rfl, rfl, ?_, rfl⟩) rfl ⟨hk, fun j => rfl, fun j => ?_⟩
  · rw [mi_wm]; funext j
    rw [if_neg (by rintro ⟨q, _⟩; omega)]
  · rw [mi_wm]; simp
