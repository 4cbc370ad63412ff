/-! Calls: few. -/
def fwS (s : Int64) (f : Nat → Int64) : Nat → Int64 := fun i => f i * (10 - s) / 10 + (if i = 0 then 0 else f (i - 1) * s / 10)
def fwN (s : Int64) : Nat → Nat → Int64
  | 0 => fun i => if i = 0 then 1000000000000 else 0
  | n + 1 => fwS s (fwN s n)
def fwT (f : Nat → Int64) : Nat → Int64
  | 0 => 0
  | k + 1 => fwT f k + f k
theorem wl_k {M M1 : gM} {a i : Nat} {x : Int64} (h : M1 = g_wl M a i x) : (∀ c, g_mi M1 c = g_mi M c) ∧ (∀ j, g_ml M1 a j = if j = i then x else g_ml M a j) := by
  subst h
  refine ⟨fun c => rfl, fun j => ?_⟩
  show g_u2 (g_ml M) a i x a j = _
  unfold g_u2
  by_cases c : j = i
  · simp [c]
  · simp [c]
theorem slip_l {s : Int} (s0 : 0 ≤ s) (s1 : s ≤ 10) : ((10 : Int32) - iZ s).toInt64 = 10 - (iZ s).toInt64 := by
  rcases (by omega : s = 0 ∨ s = 1 ∨ s = 2 ∨ s = 3 ∨ s = 4 ∨ s = 5 ∨ s = 6 ∨ s = 7 ∨ s = 8 ∨ s = 9 ∨ s = 10) with e | e | e | e | e | e | e | e | e | e | e <;> subst e <;> decide
section FEW
variable {N K A b : Nat} {k n : Nat} {y : Int64} {f : Nat → Int64}
theorem fw_8i {R : Int64 → gM → Prop} {x2 x5 : Int32} {M0 : gM} (hk : k ≤ 20) : ∀ (j g : Nat) (M : gM), j ≤ k → j + 1 ≤ g → (∀ c, g_mi M c = g_mi M0 c) → (∀ i, i < k → g_ml M (A + 306) i = if j ≤ i then fwS y f i else f i) → (∀ M1 g1, (∀ c, g_mi M1 c = g_mi M0 c) → (∀ i, i < k → g_ml M1 (A + 306) i = fwS y f i) → g ≤ g1 + j + 1 → qX8_few N K R g1 0 M1 A (iZ k) x2 y (x5 + 1) 0 0 0) → qX8_few N K R g 1 M A (iZ k) x2 y x5 (iZ ((j : Int) - 1)) 0 0 := by
  intro j
  induction j with
  | zero =>
    intro g M hj hg hf hl hE
    obtain ⟨g2, rfl⟩ : ∃ g2, g = g2 + 1 := ⟨g - 1, by omega⟩
    rw [qX8_few, if_neg (by decide), if_pos rfl]
    unfold pX8_few_70
    exact ⟨fun _ => hE M g2 hf (fun i hi => by rw [hl i hi, if_pos (by omega)]) (by omega), fun z => absurd (by decide) z⟩
  | succ j ih =>
    intro g M hj hg hf hl hE
    obtain ⟨g2, rfl⟩ : ∃ g2, g = g2 + 1 := ⟨g - 1, by omega⟩
    rw [qX8_few, if_neg (by decide), if_pos rfl]
    unfold pX8_few_70
    rw [show ((j + 1 : Nat) : Int) - 1 = (j : Int) by omega]
    have c1 : ¬ iZ (j : Int) < 0 := by rw [iZ_l0, iZ_lt (by omega) (by omega) (by omega) (by omega)]; omega
    have c2 : (iZ (j : Int) = 0) = (j = 0) := by rw [iZ_l0, iZ_eq (by omega) (by omega) (by omega) (by omega)]; exact propext ⟨fun _ => by omega, fun _ => by omega⟩
    have lj : g_ml M (A + 306) j = f j := by rw [hl j (by omega), if_neg (by omega)]
    have ex : iZ (j : Int) + -1 = iZ ((j : Int) - 1) := by rw [iZ_n1, iZ_add]; rfl
    have vj : vp_in (iZ (j : Int)) 20 := iZ_in (by omega) (by omega) (by omega)
    rw [c2, iZ_cl (show j < 2147483648 by omega), lj, ex]
    have next : ∀ M1, M1 = g_wl M (A + 306) j (fwS y f j) → qX8_few N K R g2 1 M1 A (iZ k) x2 y x5 (iZ ((j : Int) - 1)) 0 0 := fun M1 h1 => by
      obtain ⟨a1, a2⟩ := wl_k h1
      refine ih g2 M1 (by omega) (by omega) (fun c => by rw [a1 c, hf c]) (fun i hi => ?_) (fun M2 g1 q1 q2 q3 => hE M2 g1 q1 q2 (by omega))
      rw [a2 i]
      by_cases q : i = j
      · rw [if_pos q, if_pos (by omega), q]
      · rw [if_neg q, hl i hi]
        by_cases q2 : j + 1 ≤ i
        · rw [if_pos q2, if_pos (by omega)]
        · rw [if_neg q2, if_neg (by omega)]
    refine ⟨fun z => absurd z c1, fun _ => ⟨fun z => ?_, fun z => ⟨vj, fun M2 h2 => next M2 ?_⟩⟩⟩
    · rw [iZ_m1 (by omega), iZ_cl (show j - 1 < 2147483648 by omega), hl (j - 1) (by omega), if_neg (by omega)]
      refine ⟨iZ_in (by omega) (by omega) (by omega), vj, fun M1 h1 => next M1 ?_⟩
      rw [h1]
      unfold fwS
      rw [if_neg z]
    · rw [h2]
      unfold fwS
      rw [if_pos z]
theorem fw_8o {R : Int64 → gM → Prop} {M0 : gM} (hk : k ≤ 20) (hn : n ≤ 99) (hE : ∀ M1 g, (∀ c, g_mi M1 c = g_mi M0 c) → (∀ i, i < k → g_ml M1 (A + 306) i = fwN y n i) → 30 ≤ g → qX8_few N K R g 2 M1 A (iZ k) 0 0 0 0 0 0) : ∀ (e c g : Nat) (M : gM), c + e = n → 30 * e + 31 ≤ g → (∀ c, g_mi M c = g_mi M0 c) → (∀ i, i < k → g_ml M (A + 306) i = fwN y c i) → qX8_few N K R g 0 M A (iZ k) (iZ n) y (iZ c) 0 0 0 := by
  intro e
  induction e with
  | zero =>
    intro c g M hc hg hf hl
    obtain ⟨g2, rfl⟩ : ∃ g2, g = g2 + 1 := ⟨g - 1, by omega⟩
    rw [qX8_few, if_pos rfl]
    unfold pX8_few_59
    have c1 : iZ (n : Int) ≤ iZ (c : Int) := by rw [iZ_le (by omega) (by omega) (by omega) (by omega)]; omega
    have ec : c = n := by omega
    subst ec
    exact ⟨fun _ => hE M g2 hf hl (by omega), fun z => absurd c1 z⟩
  | succ e ih =>
    intro c g M hc hg hf hl
    obtain ⟨g2, rfl⟩ : ∃ g2, g = g2 + 1 := ⟨g - 1, by omega⟩
    rw [qX8_few, if_pos rfl]
    unfold pX8_few_59
    have c1 : ¬ iZ (n : Int) ≤ iZ (c : Int) := by rw [iZ_le (by omega) (by omega) (by omega) (by omega)]; omega
    refine ⟨fun z => absurd z c1, fun _ => ?_⟩
    rw [show iZ (k : Int) - 1 = iZ ((k : Int) - 1) by rw [iZ_l1, iZ_sub]]
    refine fw_8i (M0 := M0) (f := fwN y c) hk k g2 M (Nat.le_refl _) (by omega) hf (fun i hi => by rw [hl i hi, if_neg (by omega)]) (fun M1 g1 q1 q2 q3 => ?_)
    rw [iZ_s1]
    exact ih (c + 1) g1 M1 (by omega) (by omega) q1 q2
theorem fw_8s {R : Int64 → gM → Prop} {M : gM} (hk : k ≤ 20) (hl : ∀ i, i < k → g_ml M (A + 306) i = f i) (hE : R (fwT f k) M) : ∀ (e i g : Nat), i + e = k → e + 1 ≤ g → qX8_few N K R g 2 M A (iZ k) 0 0 0 0 (fwT f i) (iZ i) := by
  intro e
  induction e with
  | zero =>
    intro i g hi hg
    obtain ⟨g2, rfl⟩ : ∃ g2, g = g2 + 1 := ⟨g - 1, by omega⟩
    rw [qX8_few, if_neg (by decide), if_neg (by decide)]
    unfold pX8_few_146
    have c1 : iZ (k : Int) ≤ iZ (i : Int) := by rw [iZ_le (by omega) (by omega) (by omega) (by omega)]; omega
    rw [show i = k by omega] at c1 ⊢
    exact ⟨fun _ => hE, fun z => absurd c1 z⟩
  | succ e ih =>
    intro i g hi hg
    obtain ⟨g2, rfl⟩ : ∃ g2, g = g2 + 1 := ⟨g - 1, by omega⟩
    rw [qX8_few, if_neg (by decide), if_neg (by decide)]
    unfold pX8_few_146
    have c1 : ¬ iZ (k : Int) ≤ iZ (i : Int) := by rw [iZ_le (by omega) (by omega) (by omega) (by omega)]; omega
    rw [iZ_cl (show i < 2147483648 by omega), hl i (by omega), iZ_s1]
    exact ⟨fun z => absurd z c1, fun _ => ⟨iZ_in (by omega) (by omega) (by omega), ih (i + 1) g2 (by omega) (by omega)⟩⟩
theorem fl_8 {R : gM → Prop} {M : gM} {a : Nat} (hN : 100 ≤ N) (hE : ∀ M1, (∀ c, g_mi M1 c = g_mi M c) → (∀ i, i < 20 → g_ml M1 a i = 0) → R M1) : pJ7_fill_d0a16 N K M a 20 0 R := by
  have loop : ∀ (e i g : Nat) (M1 : gM), i + e = 20 → e + 1 ≤ g → (∀ c, g_mi M1 c = g_mi M c) → (∀ j, j < i → g_ml M1 a j = 0) → qJ7_fill_d0a16 N K R g 0 M1 a 20 0 (iZ i) 20 := by
    intro e
    induction e with
    | zero =>
      intro i g M1 hi hg hf hl
      obtain ⟨g2, rfl⟩ : ∃ g2, g = g2 + 1 := ⟨g - 1, by omega⟩
      rw [qJ7_fill_d0a16]
      unfold pJ7_fill_d0a16_6
      have c1 : (20 : Int32) ≤ iZ (i : Int) := by rw [iZ_l20, iZ_le (by omega) (by omega) (by omega) (by omega)]; omega
      exact ⟨fun _ => hE M1 hf (fun j hj => hl j (by omega)), fun z => absurd c1 z⟩
    | succ e ih =>
      intro i g M1 hi hg hf hl
      obtain ⟨g2, rfl⟩ : ∃ g2, g = g2 + 1 := ⟨g - 1, by omega⟩
      rw [qJ7_fill_d0a16]
      unfold pJ7_fill_d0a16_6
      have c1 : ¬ (20 : Int32) ≤ iZ (i : Int) := by rw [iZ_l20, iZ_le (by omega) (by omega) (by omega) (by omega)]; omega
      rw [iZ_cl (show i < 2147483648 by omega), iZ_s1]
      refine ⟨fun z => absurd z c1, fun _ => ⟨iZ_in (by omega) (by omega) (by omega), fun M2 h2 => ?_⟩⟩
      obtain ⟨a1, a2⟩ := wl_k h2
      refine ih (i + 1) g2 M2 (by omega) (by omega) (fun c => by rw [a1 c, hf c]) (fun j hj => ?_)
      rw [a2 j]
      by_cases q : j = i
      · rw [if_pos q]
      · rw [if_neg q]; exact hl j (by omega)
  unfold pJ7_fill_d0a16 pJ7_fill_d0a16_0
  exact loop 20 0 N M (by omega) (by omega) (fun _ => rfl) (fun j hj => by omega)
def fwA (r : Nat → Int) (x z : Int) : Int64 := if 1 ≤ x ∧ x ≤ 20 ∧ 0 ≤ z ∧ z ≤ 99 then fwT (fwN (iZ (r 200)).toInt64 z.toNat) x.toNat else -1
theorem fw_8 {R : Int64 → gM → Prop} {M : gM} {r : Nat → Int} {x z : Int} (hN : 10000 ≤ N) (h1 : g_mi M (A + 1 + 1 + 2) 1 = iZ (r 200)) (x1 : -2147483648 ≤ x) (x2 : x < 2147483648) (z1 : -2147483648 ≤ z) (z2 : z < 2147483648) (hE : ∀ M1, (∀ c, g_mi M1 c = g_mi M c) → R (fwA r x z) M1) : pX8_few N K M A (iZ x) (iZ z) R := by
  unfold fwA at hE
  unfold pX8_few pX8_few_0
  rw [h1, iZ_l1, iZ_lt (by omega) (by omega) (by omega) (by omega), iZ_l20, iZ_lt (by omega) (by omega) (by omega) (by omega), iZ_l0, iZ_lt (by omega) (by omega) (by omega) (by omega), iZ_l99, iZ_le (by omega) (by omega) (by omega) (by omega)]
  refine ⟨fun w => ?_, fun w => ⟨fun w2 => ?_, fun w2 => ⟨fun w3 => ?_, fun w3 => ⟨fun w4 => ?_, fun w4 => ?_⟩⟩⟩⟩
  · have := hE M (fun _ => rfl)
    rw [if_neg (by omega)] at this; exact this
  · have := hE M (fun _ => rfl)
    rw [if_neg (by omega)] at this; exact this
  · have := hE M (fun _ => rfl)
    rw [if_neg (by omega)] at this; exact this
  · refine fl_8 (by omega) (fun M1 f1 l1 M2 h2 => ?_)
    obtain ⟨a1, a2⟩ := wl_k h2
    rw [show x = ((x.toNat : Nat) : Int) by omega, show z = ((z.toNat : Nat) : Int) by omega]
    refine fw_8o (M0 := M2) (by omega) (by omega) (fun M3 g f3 l3 hg => ?_) z.toNat 0 N M2 (by omega) (by omega) (fun _ => rfl) (fun i hi => ?_)
    · refine fw_8s (f := fwN (iZ (r 200)).toInt64 z.toNat) (by omega) l3 ?_ x.toNat 0 g (by omega) (by omega)
      have := hE M3 (fun c => by rw [f3 c, a1 c, f1 c])
      rw [if_pos (by omega)] at this; exact this
    · rw [a2 i]
      show _ = if i = 0 then 1000000000000 else 0
      by_cases q : i = 0
      · rw [if_pos q, if_pos q]
      · rw [if_neg q, if_neg q]; exact l1 i (by omega)
  · have := hE M (fun _ => rfl)
    rw [if_neg (by omega)] at this; exact this
theorem fw_9i {R : Int64 → gM → Prop} {x2 x3 : Int32} {M0 : gM} {s : Int} (s0 : 0 ≤ s) (s1 : s ≤ 10) (h200 : g_mi M0 (b + 2) 200 = iZ s) (hk : k ≤ 20) : ∀ (j g : Nat) (M : gM), j ≤ k → j + 1 ≤ g → (∀ c, g_mi M c = g_mi M0 c) → (∀ i, i < k → g_ml M (b + 21) i = if j < i then fwS (iZ s).toInt64 f i else if i = j then f j * (10 - (iZ s).toInt64) / 10 else f i) → (∀ M1 g1, (∀ c, g_mi M1 c = g_mi M0 c) → (∀ i, i < k → g_ml M1 (b + 21) i = fwS (iZ s).toInt64 f i) → g ≤ g1 + j + 1 → qX9_few N K R g1 1 M1 b (iZ k) x2 (x3 + 1) 0 0 0) → qX9_few N K R g 2 M b (iZ k) x2 x3 (iZ ((j : Int) - 1)) 0 0 := by
  intro j
  induction j with
  | zero =>
    intro g M hj hg hf hl hE
    obtain ⟨g2, rfl⟩ : ∃ g2, g = g2 + 1 := ⟨g - 1, by omega⟩
    rw [qX9_few, if_neg (by decide), if_neg (by decide), if_pos rfl]
    unfold pX9_few_67
    refine ⟨fun _ => hE M g2 hf (fun i hi => ?_) (by omega), fun z => absurd (by decide) z⟩
    rw [hl i hi]
    by_cases q : 0 < i
    · rw [if_pos q]
    · rw [if_neg q, if_pos (by omega), show i = 0 by omega]
      unfold fwS
      rw [if_pos rfl, Int64.add_zero]
  | succ j ih =>
    intro g M hj hg hf hl hE
    obtain ⟨g2, rfl⟩ : ∃ g2, g = g2 + 1 := ⟨g - 1, by omega⟩
    rw [qX9_few, if_neg (by decide), if_neg (by decide), if_pos rfl]
    unfold pX9_few_67
    rw [show ((j + 1 : Nat) : Int) - 1 = (j : Int) by omega]
    have c1 : ¬ iZ (j : Int) < 0 := by rw [iZ_l0, iZ_lt (by omega) (by omega) (by omega) (by omega)]; omega
    have lj : g_ml M (b + 21) j = f j := by rw [hl j (by omega), if_neg (by omega), if_neg (by omega)]
    have ex : iZ (j : Int) + -1 = iZ ((j : Int) - 1) := by rw [iZ_n1, iZ_add]; rfl
    have vj : vp_in (iZ (j : Int)) 21 := iZ_in (by omega) (by omega) (by omega)
    rw [iZ_s1, iZ_cl (show j + 1 < 2147483648 by omega), iZ_cl (show j < 2147483648 by omega), lj, ex, hf (b + 2), h200]
    refine ⟨fun z => absurd z c1, fun _ => ⟨iZ_in (by omega) (by omega) (by omega), vj, fun M1 h1 => ⟨vj, fun M2 h2 => ?_⟩⟩⟩
    obtain ⟨a1, a2⟩ := wl_k h1
    rw [a1 (b + 2), hf (b + 2), h200, slip_l s0 s1, a2 j, if_neg (by omega), lj] at h2
    obtain ⟨d1, d2⟩ := wl_k h2
    refine ih g2 M2 (by omega) (by omega) (fun c => by rw [d1 c, a1 c, hf c]) (fun i hi => ?_) (fun M3 g1 q1 q2 q3 => hE M3 g1 q1 q2 (by omega))
    rw [d2 i]
    by_cases q : i = j
    · subst q
      rw [if_pos rfl, if_neg (by omega), if_pos rfl]
    · rw [if_neg q, a2 i]
      by_cases q2 : i = j + 1
      · subst q2
        rw [if_pos rfl, if_pos (by omega), hl _ hi, if_neg (by omega), if_pos rfl]
        unfold fwS
        rw [if_neg (by omega), show j + 1 - 1 = j by omega]
      · rw [if_neg q2, hl i hi]
        by_cases q3 : j + 1 < i
        · rw [if_pos q3, if_pos (by omega)]
        · rw [if_neg q3, if_neg (by omega), if_neg (by omega), if_neg q]
theorem fw_9o {R : Int64 → gM → Prop} {M0 : gM} {s : Int} (s0 : 0 ≤ s) (s1 : s ≤ 10) (h200 : g_mi M0 (b + 2) 200 = iZ s) (hk : k ≤ 20) (hn : n ≤ 99) (hE : ∀ M1 g, (∀ c, g_mi M1 c = g_mi M0 c) → (∀ i, i < k → g_ml M1 (b + 21) i = fwN (iZ s).toInt64 n i) → 30 ≤ g → qX9_few N K R g 3 M1 b (iZ k) 0 0 0 0 0) : ∀ (e c g : Nat) (M : gM), c + e = n → 30 * e + 31 ≤ g → (∀ c, g_mi M c = g_mi M0 c) → (∀ i, i < k → g_ml M (b + 21) i = fwN (iZ s).toInt64 c i) → qX9_few N K R g 1 M b (iZ k) (iZ n) (iZ c) 0 0 0 := by
  intro e
  induction e with
  | zero =>
    intro c g M hc hg hf hl
    obtain ⟨g2, rfl⟩ : ∃ g2, g = g2 + 1 := ⟨g - 1, by omega⟩
    rw [qX9_few, if_neg (by decide), if_pos rfl]
    unfold pX9_few_57
    have c1 : iZ (n : Int) ≤ iZ (c : Int) := by rw [iZ_le (by omega) (by omega) (by omega) (by omega)]; omega
    have ec : c = n := by omega
    subst ec
    exact ⟨fun _ => hE M g2 hf hl (by omega), fun z => absurd c1 z⟩
  | succ e ih =>
    intro c g M hc hg hf hl
    obtain ⟨g2, rfl⟩ : ∃ g2, g = g2 + 1 := ⟨g - 1, by omega⟩
    rw [qX9_few, if_neg (by decide), if_pos rfl]
    unfold pX9_few_57
    have c1 : ¬ iZ (n : Int) ≤ iZ (c : Int) := by rw [iZ_le (by omega) (by omega) (by omega) (by omega)]; omega
    refine ⟨fun z => absurd z c1, fun _ => ?_⟩
    rw [show iZ (k : Int) - 1 = iZ ((k : Int) - 1) by rw [iZ_l1, iZ_sub]]
    refine fw_9i (M0 := M0) (f := fwN (iZ s).toInt64 c) s0 s1 h200 hk k g2 M (Nat.le_refl _) (by omega) hf (fun i hi => by rw [hl i hi, if_neg (by omega), if_neg (by omega)]) (fun M1 g1 q1 q2 q3 => ?_)
    rw [iZ_s1]
    exact ih (c + 1) g1 M1 (by omega) (by omega) q1 q2
theorem fw_9s {R : Int64 → gM → Prop} {M : gM} (hk : k ≤ 20) (hl : ∀ i, i < k → g_ml M (b + 21) i = f i) (hE : R (fwT f k) M) : ∀ (e i g : Nat), i + e = k → e + 1 ≤ g → qX9_few N K R g 3 M b (iZ k) 0 0 0 (fwT f i) (iZ i) := by
  intro e
  induction e with
  | zero =>
    intro i g hi hg
    obtain ⟨g2, rfl⟩ : ∃ g2, g = g2 + 1 := ⟨g - 1, by omega⟩
    rw [qX9_few, if_neg (by decide), if_neg (by decide), if_neg (by decide)]
    unfold pX9_few_153
    have c1 : iZ (k : Int) ≤ iZ (i : Int) := by rw [iZ_le (by omega) (by omega) (by omega) (by omega)]; omega
    rw [show i = k by omega] at c1 ⊢
    exact ⟨fun _ => hE, fun z => absurd c1 z⟩
  | succ e ih =>
    intro i g hi hg
    obtain ⟨g2, rfl⟩ : ∃ g2, g = g2 + 1 := ⟨g - 1, by omega⟩
    rw [qX9_few, if_neg (by decide), if_neg (by decide), if_neg (by decide)]
    unfold pX9_few_153
    have c1 : ¬ iZ (k : Int) ≤ iZ (i : Int) := by rw [iZ_le (by omega) (by omega) (by omega) (by omega)]; omega
    rw [iZ_cl (show i < 2147483648 by omega), hl i (by omega), iZ_s1]
    exact ⟨fun z => absurd z c1, fun _ => ⟨iZ_in (by omega) (by omega) (by omega), ih (i + 1) g2 (by omega) (by omega)⟩⟩
theorem fw_9 {R : Int64 → gM → Prop} {M : gM} {r : Nat → Int} {x z : Int} (hN : 10000 ≤ N) (h200 : g_mi M (b + 2) 200 = iZ (r 200)) (s0 : 0 ≤ r 200) (s1 : r 200 ≤ 10) (x1 : -2147483648 ≤ x) (x2 : x < 2147483648) (z1 : -2147483648 ≤ z) (z2 : z < 2147483648) (hE : ∀ M1, (∀ c, g_mi M1 c = g_mi M c) → R (fwA r x z) M1) : pX9_few N K M b (iZ x) (iZ z) R := by
  unfold fwA at hE
  unfold pX9_few pX9_few_0
  intro v1 hv1
  rw [iZ_l1, iZ_l20, lies_9 x1 x2 (by omega) (by omega) (by omega) (by omega)] at hv1
  subst hv1
  rw [iB_0, decide_eq_false_iff_not]
  refine ⟨fun w => ?_, fun w v2 hv2 => ?_⟩
  · have := hE M (fun _ => rfl)
    rw [if_neg (by omega)] at this; exact this
  · have w1 := Classical.not_not.mp w
    rw [iZ_l99, lo3 z1 z2 (by omega) (by omega)] at hv2
    subst hv2
    rw [iB_0, decide_eq_false_iff_not]
    refine ⟨fun w2 => ?_, fun w2 => ?_⟩
    · have w3 := Classical.not_not.mp w2
      have init : ∀ (e i g : Nat) (M1 : gM), i + e = 21 → e + 4000 ≤ g → (∀ c, g_mi M1 c = g_mi M c) → (∀ j, j < i → g_ml M1 (b + 21) j = if j = 0 then 1000000000000 else 0) → qX9_few N K R g 0 M1 b (iZ x) (iZ z) (iZ i) 0 0 0 := by
        intro e
        induction e with
        | zero =>
          intro i g M1 hi hg hf hl
          obtain ⟨g2, rfl⟩ : ∃ g2, g = g2 + 1 := ⟨g - 1, by omega⟩
          rw [qX9_few, if_pos rfl]
          unfold pX9_few_26
          have c1 : (20 : Int32) < iZ (i : Int) := by rw [iZ_l20, iZ_lt (by omega) (by omega) (by omega) (by omega)]; omega
          refine ⟨fun _ => ?_, fun q => absurd c1 q⟩
          rw [show x = ((x.toNat : Nat) : Int) by omega, show z = ((z.toNat : Nat) : Int) by omega]
          refine fw_9o (M0 := M1) s0 s1 (by rw [hf]; exact h200) (by omega) (by omega) (fun M3 g3 f3 l3 hg3 => ?_) z.toNat 0 g2 M1 (by omega) (by omega) (fun _ => rfl) (fun j hj => hl j (by omega))
          refine fw_9s (f := fwN (iZ (r 200)).toInt64 z.toNat) (by omega) l3 ?_ x.toNat 0 g3 (by omega) (by omega)
          have := hE M3 (fun c => by rw [f3 c, hf c])
          rw [if_pos (by omega)] at this; exact this
        | succ e ih =>
          intro i g M1 hi hg hf hl
          obtain ⟨g2, rfl⟩ : ∃ g2, g = g2 + 1 := ⟨g - 1, by omega⟩
          rw [qX9_few, if_pos rfl]
          unfold pX9_few_26
          have c1 : ¬ (20 : Int32) < iZ (i : Int) := by rw [iZ_l20, iZ_lt (by omega) (by omega) (by omega) (by omega)]; omega
          have c2 : (iZ (i : Int) = 0) = (i = 0) := by rw [iZ_l0, iZ_eq (by omega) (by omega) (by omega) (by omega)]; exact propext ⟨fun _ => by omega, fun _ => by omega⟩
          rw [c2, iZ_cl (show i < 2147483648 by omega), iZ_s1]
          have next : ∀ M2 (v : Int64), M2 = g_wl M1 (b + 21) i v → (v = if i = 0 then 1000000000000 else 0) → qX9_few N K R g2 0 M2 b (iZ x) (iZ z) (iZ ((i + 1 : Nat) : Int)) 0 0 0 := fun M2 v h2 hv => by
            obtain ⟨a1, a2⟩ := wl_k h2
            refine ih (i + 1) g2 M2 (by omega) (by omega) (fun c => by rw [a1 c, hf c]) (fun j hj => ?_)
            rw [a2 j]
            by_cases q : j = i
            · rw [if_pos q, hv, q]
            · rw [if_neg q]; exact hl j (by omega)
          exact ⟨fun q => absurd q c1, fun _ => ⟨fun q => ⟨iZ_in (by omega) (by omega) (by omega), fun M2 h2 => next M2 0 h2 (by rw [if_neg q])⟩, fun q => ⟨iZ_in (by omega) (by omega) (by omega), fun M2 h2 => next M2 _ h2 (by rw [if_pos q])⟩⟩⟩
      exact init 21 0 N M (by omega) (by omega) (fun _ => rfl) (fun j hj => by omega)
    · have := hE M (fun _ => rfl)
      rw [if_neg (by omega)] at this; exact this
end FEW
section OBF
variable {X : gX} {A : Nat} {x1 x2 : Int32}
theorem ob_few : ObL X 1311 0 0 kX8_few kX9_few (INV A) A (A + 329) [.int x1, .int x2] := by
  obtain ⟨x, rfl, b1, b2⟩ := i32x x1
  obtain ⟨z, rfl, c1, c2⟩ := i32x x2
  intro M hI hfr
  obtain ⟨r, lw, H, im, ilw, bt, ln, fr, dr, ms, hp, hc, hr⟩ := hI
  refine ⟨hc.1.1, fun Q hQ => ?_⟩
  refine uX8_few (N := 20000) (K := 1290) (d := 1310) (R := fun v M1 => v = fwA r x z ∧ ∀ c, g_mi M1 c = g_mi M c) hc.1 (fw_8 (by omega) hc.rs.2.1 b1 b2 c1 c2 (fun M1 f1 => ⟨rfl, f1⟩)) (fun v M1 s hv => ?_)
  obtain ⟨e, f1⟩ := hv
  have hr1 := hr.kee s (fun c j _ => by rw [f1 c])
  have hc1 := hc.kee s (fun c j _ => by rw [f1 c])
  refine hQ v M1 hr1.1.1 (fun Q2 hQ2 => ?_)
  refine uX9_few (N := 20000) (K := 1290) (d := 1310) (R := fun v M2 => v = fwA r x z ∧ ∀ c, g_mi M2 c = g_mi M1 c) hr1.1 (fw_9 (by omega) (hr1.2.1 200 (by omega)) hp.1.s.1 hp.1.s.2 b1 b2 c1 c2 (fun M2 f2 => ⟨rfl, f2⟩)) (fun v2 M2 s2 hv2 => ?_)
  obtain ⟨e2, f2⟩ := hv2
  rw [e2, ← e]
  exact hQ2 M2 ⟨r, lw, H, im, ilw, bt, ln, fr, dr, ms, hp, hc1.kee s2 (fun c j _ => by rw [f2 c]), hr1.kee s2 (fun c j _ => by rw [f2 c])⟩
end OBF
