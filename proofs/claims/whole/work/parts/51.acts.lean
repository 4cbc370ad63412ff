/-! A State's own acts on both sides: has, insert, remove, side, seed. -/
/-- nothing but the cells P has changed (ints) -/
def Fp (P : Nat → Prop) (M M2 : gM) : Prop := ∀ c, ¬ P c → g_mi M2 c = g_mi M c
theorem Fp.rf {P : Nat → Prop} {M : gM} : Fp P M M := fun _ _ => rfl
theorem Fp.tr {P : Nat → Prop} {M M1 M2 : gM} (h1 : Fp P M M1) (h2 : Fp P M1 M2) : Fp P M M2 := fun c hc => (h2 c hc).trans (h1 c hc)
theorem Fp.mono {P P2 : Nat → Prop} {M M2 : gM} (h : Fp P M M2) (hp : ∀ c, P c → P2 c) : Fp P2 M M2 := fun c hc => h c (fun q => hc (hp c q))
theorem Fp.wi {P : Nat → Prop} {M M1 : gM} {a i : Nat} {v : Int32} (h : Fp P M M1) (ha : P a) : Fp P M (g_wi M1 a i v) := fun c hc => by
  rw [← h c hc, g_mi_wi, g_u2_ne _ _ _ (fun q => hc (by rw [q]; exact ha))]
theorem Fp.wm {P : Nat → Prop} {M : gM} {f : Nat → Nat → Int32} {g : Nat → Nat → Int64} (h : ∀ c, ¬ P c → f c = g_mi M c) : Fp P M (g_wm M f g) := h
theorem Fp.at {P : Nat → Prop} {M M2 : gM} (h : Fp P M M2) {c : Nat} (hc : ¬ P c) (j : Nat) : g_mi M2 c j = g_mi M c j := by rw [h c hc]
theorem Rk.fp {P : Nat → Prop} {M M2 : gM} {a : Nat} {r : Nat → Int} (h : Fp P M M2) (h0 : ¬ P a) (h1 : ¬ P (a + 1)) (h2 : ¬ P (a + 2)) (e : Rk M a r) : Rk M2 a r := by
  unfold Rk
  rw [h a h0, h _ h1, h _ h2]
  exact e
theorem Rt.fp {P : Nat → Prop} {M M2 : gM} {t : Nat} {r : Nat → Int} (h : Fp P M M2) (h0 : ¬ P t) (h1 : ¬ P (t + 1)) (h2 : ¬ P (t + 2)) (h3 : ¬ P (t + 3)) (e : Rt M t r) : Rt M2 t r := by
  unfold Rt
  rw [h t h0, h _ h1, h _ h2, h _ h3]
  exact e
theorem Rr.fp {P : Nat → Prop} {M M2 : gM} {b : Nat} {r : Nat → Int} (h : Fp P M M2) (h0 : ¬ P (b + 2)) (e : Rr M b r) : Rr M2 b r := by
  unfold Rr
  rw [h _ h0]
  exact e
/-- booleans as ints -/
def iB (p : Bool) : Int32 := if p then 1 else 0
theorem iB_0 {p : Bool} : (iB p = 0) = (p = false) := by cases p <;> simp [iB]
theorem iB_1 {p : Bool} : (iB p = 1) = (p = true) := by cases p <;> simp [iB]
theorem iB_o {p : Bool} : iB p = 0 ∨ iB p = 1 := by cases p <;> simp [iB]
theorem lies_9 {x l h : Int} (x1 : -2147483648 ≤ x) (x2 : x < 2147483648) (l1 : -2147483648 ≤ l) (l2 : l < 2147483648) (h1 : -2147483648 ≤ h) (h2 : h < 2147483648) : fX9_lies (iZ x) (iZ l) (iZ h) = iB (decide (l ≤ x ∧ x ≤ h)) := by
  unfold fX9_lies iB
  simp only [iZ_lt x1 x2 l1 l2, iZ_lt h1 h2 x1 x2, decide_eq_true_eq]
  split
  · rw [if_neg (by omega)]
  · split
    · rw [if_neg (by omega)]
    · rw [if_pos (by omega)]
theorem isKey_8 {x : Int} (x1 : -2147483648 ≤ x) (x2 : x < 2147483648) : fX8_isKey (iZ x) = iB (decide (0 ≤ x ∧ x ≤ 999)) := by
  unfold fX8_isKey iB
  rw [iZ_l1000]
  simp only [iZ_l0, iZ_lt x1 x2 (show -2147483648 ≤ 0 by decide) (show (0 : Int) < 2147483648 by decide), iZ_le (show -2147483648 ≤ 1000 by decide) (show (1000 : Int) < 2147483648 by decide) x1 x2, decide_eq_true_eq]
  split
  · rw [if_neg (by omega)]
  · split
    · rw [if_neg (by omega)]
    · rw [if_pos (by omega)]
theorem isSeed_8 {x : Int} (x1 : -2147483648 ≤ x) (x2 : x < 2147483648) : fX8_isSeed (iZ x) = iB (decide (0 ≤ x ∧ x ≤ 255)) := by
  unfold fX8_isSeed iB
  rw [iZ_l256]
  simp only [iZ_l0, iZ_lt x1 x2 (show -2147483648 ≤ 0 by decide) (show (0 : Int) < 2147483648 by decide), iZ_le (show -2147483648 ≤ 256 by decide) (show (256 : Int) < 2147483648 by decide) x1 x2, decide_eq_true_eq]
  split
  · rw [if_neg (by omega)]
  · split
    · rw [if_neg (by omega)]
    · rw [if_pos (by omega)]
theorem isKey_9 {x : Int} (x1 : -2147483648 ≤ x) (x2 : x < 2147483648) : fX9_isKey (iZ x) = iB (decide (0 ≤ x ∧ x ≤ 999)) := by
  unfold fX9_isKey
  rw [iZ_l0, iZ_l999]
  exact lies_9 (l := 0) (h := 999) x1 x2 (by decide) (by decide) (by decide) (by decide)
theorem isSeed_9 {x : Int} (x1 : -2147483648 ≤ x) (x2 : x < 2147483648) : fX9_isSeed (iZ x) = iB (decide (0 ≤ x ∧ x ≤ 255)) := by
  unfold fX9_isSeed
  rw [iZ_l0, iZ_l255]
  exact lies_9 (l := 0) (h := 255) x1 x2 (by decide) (by decide) (by decide) (by decide)
theorem EisKey_9 {M : gM} {x : Int} (x1 : -2147483648 ≤ x) (x2 : x < 2147483648) : EX9_isKey M (iZ x) := by
  have := isKey_9 x1 x2
  unfold fX9_isKey at this
  unfold EX9_isKey
  rw [this]
  exact iB_o
theorem EisSeed_9 {M : gM} {x : Int} (x1 : -2147483648 ≤ x) (x2 : x < 2147483648) : EX9_isSeed M (iZ x) := by
  have := isSeed_9 x1 x2
  unfold fX9_isSeed at this
  unfold EX9_isSeed
  rw [this]
  exact iB_o
/-- whether a key is there -/
def isT (r : Nat → Int) (k : Int) : Bool := decide ((lo r k : Int) < r 0 ∧ r (1 + lo r k) = k)
theorem has_8 {N : Nat} {M : gM} {a : Nat} {r : Nat → Int} {k : Int} (hN : 100 ≤ N) (hV : Vk r) (hR : Rk M a r) (b1 : -2147483648 ≤ k) (b2 : k < 2147483648) : EX3_has N M a (iZ k) ∧ fX3_has N M a (iZ k) = iB (isT r k) := by
  obtain ⟨e1, e2⟩ := lo_8 hN hV hR b1 b2
  have l1 := lo_le r k hV.1
  have v2 := hV.2.1
  unfold EX3_has fX3_has iB isT
  rw [e2, hR.1]
  rw [iZ_nat (by omega) (by omega), show ((lo r k : Nat) : Int).toNat = lo r k from rfl]
  by_cases c : r 0 ≤ lo r k
  · have c' : iZ (r 0) ≤ iZ (lo r k) := by rw [iZ_le (by omega) (by omega) (by omega) (by omega)]; exact c
    rw [if_pos c']
    refine ⟨⟨e1, fun q => absurd c' q⟩, ?_⟩
    rw [if_neg (by simp only [decide_eq_true_eq]; omega)]
  · have c' : ¬ iZ (r 0) ≤ iZ (lo r k) := by rw [iZ_le (by omega) (by omega) (by omega) (by omega)]; exact c
    have v3 := hV.2.2.1 (lo r k) (by omega)
    rw [if_neg c', hR.2.1 _ (by omega)]
    refine ⟨⟨e1, fun _ => iZ_in (by omega) (by omega) (by omega)⟩, ?_⟩
    simp only [iZ_eq (show -2147483648 ≤ r (1 + lo r k) by omega) (show r (1 + lo r k) < 2147483648 by omega) b1 b2, decide_eq_true_eq]
    by_cases c2 : r (1 + lo r k) = k
    · rw [if_pos c2, if_pos ⟨by omega, c2⟩]
    · rw [if_neg c2, if_neg (fun q => c2 q.2)]
theorem has_9 {N : Nat} {M : gM} {b : Nat} {r : Nat → Int} {k : Int} (hN : 100 ≤ N) (hV : Vk r) (hR : Rr M b r) (b1 : -2147483648 ≤ k) (b2 : k < 2147483648) : EX9_isThere N M b (iZ k) ∧ fX9_isThere N M b (iZ k) = iB (isT r k) := by
  obtain ⟨e1, e2⟩ := lo_9 hN hV hR b1 b2
  have l1 := lo_le r k hV.1
  have v2 := hV.2.1
  unfold EX9_isThere fX9_isThere iB isT
  rw [e2, hR 0 (by omega)]
  by_cases c : r 0 ≤ lo r k
  · have c' : iZ (r 0) ≤ iZ (lo r k) := by rw [iZ_le (by omega) (by omega) (by omega) (by omega)]; exact c
    rw [if_pos c']
    refine ⟨⟨e1, fun q => absurd c' q⟩, ?_⟩
    rw [if_neg (by simp only [decide_eq_true_eq]; omega)]
  · have c' : ¬ iZ (r 0) ≤ iZ (lo r k) := by rw [iZ_le (by omega) (by omega) (by omega) (by omega)]; exact c
    have v3 := hV.2.2.1 (lo r k) (by omega)
    obtain ⟨k1, k2⟩ := ka_9 (i := lo r k) hR (by omega)
    rw [if_neg c', k2]
    refine ⟨⟨e1, fun _ => k1⟩, ?_⟩
    simp only [iZ_eq (show -2147483648 ≤ r (1 + lo r k) by omega) (show r (1 + lo r k) < 2147483648 by omega) b1 b2, decide_eq_true_eq]
    by_cases c2 : r (1 + lo r k) = k
    · rw [if_pos c2, if_pos ⟨by omega, c2⟩]
    · rw [if_neg c2, if_neg (fun q => c2 q.2)]
/-- a key comes, goes -/
def addR (r : Nat → Int) (k : Int) : Nat → Int := fun i => if i = 0 then r 0 + 1 else if i = 1 + lo r k then k else if 1 + lo r k < i ∧ (i : Int) ≤ r 0 + 1 then r (i - 1) else r i
def takeR (r : Nat → Int) (k : Int) : Nat → Int := fun i => if i = 0 then r 0 - 1 else if 1 + lo r k ≤ i ∧ (i : Int) < r 0 then r (i + 1) else r i
theorem addR_hi {r : Nat → Int} {k : Int} {i : Nat} (hV : Vk r) (h30 : r 0 < 30) (hi : 31 ≤ i) : addR r k i = r i := by
  have l1 := lo_le r k hV.1
  unfold addR
  rw [if_neg (by omega), if_neg (by omega), if_neg (by omega)]
theorem takeR_hi {r : Nat → Int} {k : Int} {i : Nat} (hV : Vk r) (hi : 31 ≤ i) : takeR r k i = r i := by
  have v2 := hV.2.1
  unfold takeR
  rw [if_neg (by omega), if_neg (by omega)]
theorem addR_V {r : Nat → Int} {k : Int} (hV : Vk r) (h30 : r 0 < 30) (k0 : 0 ≤ k) (k1 : k ≤ 999) (hT : isT r k = false) : Vk (addR r k) := by
  have l1 := lo_le r k hV.1
  obtain ⟨v1, v2, v3, v4, v5, v6, v7, v8, v9, v10⟩ := hV
  have hV : Vk r := ⟨v1, v2, v3, v4, v5, v6, v7, v8, v9, v10⟩
  have hl : ∀ j, j < lo r k → r (1 + j) < k := fun j hj => by
    rcases Int.lt_or_le (r (1 + j)) k with h | h
    · exact h
    · exfalso
      -- the first that is not lower is at j or ahead of it
      have : lo r k ≤ j := by
        have hc : cnt (fun i => decide (r (1 + i) < k)) (r 0).toNat ≤ cnt (fun i => decide (i < j)) (r 0).toNat := cnt_mono (fun i hi hp => by
          simp only [decide_eq_true_eq] at hp ⊢
          rcases Nat.lt_or_ge i j with h5 | h5
          · exact h5
          · exfalso
            rcases Nat.lt_or_ge j i with h6 | h6
            · have := v4 j i h6 (by omega); omega
            · have e : i = j := by omega
              subst e; omega)
        have h2 : cnt (fun i => decide (i < j)) (r 0).toNat = j := cnt_pre (by omega) (fun i hi => by simp)
        unfold lo
        omega
      omega
  have hg : ∀ j : Nat, lo r k ≤ j → (j : Int) < r 0 → k < r (1 + j) := fun j h1 h2 => by
    have h0 : k < r (1 + lo r k) := by
      have hne : ¬ r (1 + lo r k) = k := fun q => by
        have : isT r k = true := by unfold isT; simp only [decide_eq_true_eq]; exact ⟨by omega, q⟩
        rw [hT] at this; cases this
      rcases Int.lt_or_le (r (1 + lo r k)) k with h | h
      · exfalso
        have hc : cnt (fun i => decide (i < lo r k + 1)) (r 0).toNat ≤ cnt (fun i => decide (r (1 + i) < k)) (r 0).toNat := cnt_mono (fun i hi hp => by
          simp only [decide_eq_true_eq] at hp ⊢
          rcases Nat.lt_or_ge i (lo r k) with h5 | h5
          · exact hl i h5
          · have e : i = lo r k := by omega
            rw [e]; exact h)
        have h2 : cnt (fun i => decide (i < lo r k + 1)) (r 0).toNat = lo r k + 1 := cnt_pre (by omega) (fun i hi => by simp)
        have e : lo r k = cnt (fun i => decide (r (1 + i) < k)) (r 0).toNat := rfl
        omega
      · omega
    rcases Nat.lt_or_ge (lo r k) j with h5 | h5
    · have := v4 _ j h5 h2; omega
    · have e : j = lo r k := by omega
      rw [e]; exact h0
  have a0 : addR r k 0 = r 0 + 1 := by unfold addR; rw [if_pos rfl]
  have aj : ∀ j : Nat, (j : Int) < r 0 + 1 → addR r k (1 + j) = if j < lo r k then r (1 + j) else if j = lo r k then k else r j := fun j hj => by
    unfold addR
    rw [if_neg (by omega)]
    by_cases h1 : j < lo r k
    · rw [if_neg (by omega), if_neg (by omega), if_pos h1]
    · by_cases h2 : j = lo r k
      · rw [if_pos (by omega), if_neg h1, if_pos h2]
      · rw [if_neg (by omega), if_pos (by omega), if_neg h1, if_neg h2, show 1 + j - 1 = j by omega]
  refine ⟨by omega, by omega, fun i hi => ?_, fun i j hij hj => ?_, ?_, ?_, ?_, ?_, ?_, ?_⟩
  · rw [a0] at hi
    rw [aj i hi]
    split
    · exact v3 i (by omega)
    · split
      · exact ⟨k0, k1⟩
      · have := v3 (i - 1) (by omega)
        rw [show 1 + (i - 1) = i by omega] at this
        exact this
  · rw [a0] at hj
    rw [aj i (by omega), aj j hj]
    by_cases i1 : i < lo r k
    · rw [if_pos i1]
      by_cases j1 : j < lo r k
      · rw [if_pos j1]; exact v4 i j hij (by omega)
      · rw [if_neg j1]
        by_cases j2 : j = lo r k
        · rw [if_pos j2]; exact hl i i1
        · rw [if_neg j2]
          have h1 := hl i i1
          have h2 := hg (j - 1) (by omega) (by omega)
          rw [show 1 + (j - 1) = j by omega] at h2
          omega
    · rw [if_neg i1, if_neg (show ¬ j < lo r k by omega), if_neg (show ¬ j = lo r k by omega)]
      by_cases i2 : i = lo r k
      · rw [if_pos i2]
        have h2 := hg (j - 1) (by omega) (by omega)
        rw [show 1 + (j - 1) = j by omega] at h2
        exact h2
      · rw [if_neg i2]
        have h2 := v4 (i - 1) (j - 1) (by omega) (by omega)
        rw [show 1 + (j - 1) = j by omega, show 1 + (i - 1) = i by omega] at h2
        exact h2
  all_goals (rw [addR_hi hV h30 (by omega)]; assumption)
theorem takeR_V {r : Nat → Int} {k : Int} (hV : Vk r) (h : 0 < r 0) : Vk (takeR r k) := by
  obtain ⟨v1, v2, v3, v4, v5, v6, v7, v8, v9, v10⟩ := hV
  have hV : Vk r := ⟨v1, v2, v3, v4, v5, v6, v7, v8, v9, v10⟩
  have a0 : takeR r k 0 = r 0 - 1 := by unfold takeR; rw [if_pos rfl]
  have aj : ∀ j : Nat, (j : Int) < r 0 - 1 → takeR r k (1 + j) = if j < lo r k then r (1 + j) else r (1 + (j + 1)) := fun j hj => by
    unfold takeR
    rw [if_neg (by omega)]
    by_cases h1 : j < lo r k
    · rw [if_neg (by omega), if_pos h1]
    · rw [if_pos (by omega), if_neg h1]; rfl
  refine ⟨by omega, by omega, fun i hi => ?_, fun i j hij hj => ?_, ?_, ?_, ?_, ?_, ?_, ?_⟩
  · rw [a0] at hi
    rw [aj i hi]
    split
    · exact v3 i (by omega)
    · exact v3 (i + 1) (by omega)
  · rw [a0] at hj
    rw [aj i (by omega), aj j hj]
    split
    · split
      · exact v4 i j hij (by omega)
      · exact v4 i (j + 1) (by omega) (by omega)
    · rw [if_neg (by omega)]
      exact v4 (i + 1) (j + 1) (by omega) (by omega)
  all_goals (rw [takeR_hi hV (by omega)]; assumption)
