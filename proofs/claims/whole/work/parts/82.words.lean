/-! Words on both sides. -/
def flt (ws : List (List Int)) : List Int := ws.flatMap fun w => w ++ [32]
theorem vch_R : ∀ i : Fin 113, g_vch (iZ ((i : Nat) : Int)) = iZ ((flt VC).getD i 0) := by decide +kernel
theorem VC_n : ∀ w ∈ VC, ∀ c ∈ w, 97 ≤ c ∧ c ≤ 122 := by decide
theorem VR_n : ∀ w ∈ VR, ∀ c ∈ w, 97 ≤ c ∧ c ≤ 122 := by decide
theorem VC_l : (flt VC).length = 113 := by decide
theorem VR_l : (flt VR).length = 113 := by decide
/-- the first m letters are those at s, of n -/
def Pm (bt : Nat → Int) (s n : Nat) (x : List Int) (m : Nat) : Prop := m ≤ n ∧ ∀ j, j < m → x.getD j 0 = bt (s + j)
theorem Pm_s {bt : Nat → Int} {s n : Nat} {x : List Int} {m : Nat} : Pm bt s n x (m + 1) ↔ Pm bt s n x m ∧ m < n ∧ x.getD m 0 = bt (s + m) := by
  constructor
  · rintro ⟨h1, h2⟩
    exact ⟨⟨by omega, fun j hj => h2 j (by omega)⟩, by omega, h2 m (by omega)⟩
  · rintro ⟨⟨h1, h2⟩, h3, h4⟩
    refine ⟨by omega, fun j hj => ?_⟩
    rcases Nat.lt_or_ge j m with z | z
    · exact h2 j z
    · rw [show j = m by omega]; exact h4
theorem wrd_at {bt : Nat → Int} {s n j : Nat} (h : j < n) : (wrd bt s n)[j]? = some (bt (s + j)) := by
  unfold wrd
  rw [List.getElem?_map, List.getElem?_range h]
  rfl
theorem wrd_l {bt : Nat → Int} {s n : Nat} : (wrd bt s n).length = n := by unfold wrd; simp
theorem Pm_w {bt : Nat → Int} {s n : Nat} {x : List Int} : (Pm bt s n x x.length ∧ x.length = n) ↔ x = wrd bt s n := by
  constructor
  · rintro ⟨⟨_, h2⟩, h3⟩
    refine List.ext_getElem? (fun j => ?_)
    rcases Nat.lt_or_ge j n with z | z
    · rw [wrd_at z]
      have := h2 j (by omega)
      rw [List.getD_eq_getElem?_getD, List.getElem?_eq_getElem (show j < x.length by omega)] at this
      rw [List.getElem?_eq_getElem (show j < x.length by omega), ← this]
      rfl
    · rw [List.getElem?_eq_none (by omega), List.getElem?_eq_none (by rw [wrd_l]; exact z)]
  · intro h
    have hl : x.length = n := by rw [h]; exact wrd_l
    refine ⟨⟨by omega, fun j hj => ?_⟩, hl⟩
    rw [List.getD_eq_getElem?_getD, h, wrd_at (by omega)]
    rfl
theorem flt_at {pre : List (List Int)} {x : List Int} {ws : List (List Int)} {m : Nat} : (m < x.length → (flt (pre ++ x :: ws)).getD ((flt pre).length + m) 0 = x.getD m 0) ∧ (flt (pre ++ x :: ws)).getD ((flt pre).length + x.length) 0 = 32 ∧ (flt (pre ++ [x])).length = (flt pre).length + x.length + 1 := by
  have e : flt (pre ++ x :: ws) = flt pre ++ (x ++ (32 :: flt ws)) := by unfold flt; simp
  refine ⟨fun h => ?_, ?_, ?_⟩
  · rw [e, List.getD_eq_getElem?_getD, List.getElem?_append_right (by omega), List.getD_eq_getElem?_getD, show (flt pre).length + m - (flt pre).length = m by omega, List.getElem?_append_left h]
  · rw [e, List.getD_eq_getElem?_getD, List.getElem?_append_right (by omega), show (flt pre).length + x.length - (flt pre).length = x.length by omega, List.getElem?_append_right (by omega)]
    simp
  · unfold flt; simp; omega
section WD
variable {N K a : Nat} {M : gM} {bt : Nat → Int} {s e len : Nat}
/-- one word of the class's vocabulary -/
theorem cw_one {R : Int32 → Prop} {pre : List (List Int)} {x : List Int} {ws : List (List Int)} (hV : VC = pre ++ x :: ws) (hx : ∀ c ∈ x, 97 ≤ c ∧ c ≤ 122) (hse : s ≤ e) (he : e ≤ 400) (hb : ∀ i, i < e → g_mi M (a + 1) i = iZ (bt i) ∧ 0 ≤ bt i ∧ bt i ≤ 255) (hY : x = wrd bt s (e - s) → R (iZ pre.length)) (n0 : Nat) (hN : x ≠ wrd bt s (e - s) → ∀ n, n0 ≤ n → qX2_wordBetween N K R n 0 M a (iZ s) (iZ e) (iZ ((pre.length + 1 : Nat) : Int)) 0 (iZ (((flt (pre ++ [x])).length : Nat) : Int))) : ∀ (d m n : Nat) (x4 : Int32), m + d = x.length → n0 + d + 1 ≤ n → ((x4 = iZ m ∧ Pm bt s (e - s) x m) ∨ (x4 = iZ (-1) ∧ ¬ Pm bt s (e - s) x m)) → qX2_wordBetween N K R n 0 M a (iZ s) (iZ e) (iZ pre.length) x4 (iZ (((flt pre).length + m : Nat) : Int)) := by
  have hpl : pre.length ≤ 22 := by
    have : VC.length = 22 := rfl
    rw [hV, List.length_append] at this
    omega
  have hfl : (flt pre).length + x.length + 1 ≤ 113 := by
    have h1 := VC_l
    rw [hV] at h1
    have e : flt (pre ++ x :: ws) = flt pre ++ (x ++ (32 :: flt ws)) := by unfold flt; simp
    rw [e] at h1
    simp at h1
    omega
  have vch : ∀ i : Nat, i < 113 → g_vch (iZ (i : Int)) = iZ ((flt (pre ++ x :: ws)).getD i 0) := fun i hi => by
    have := vch_R ⟨i, hi⟩
    rw [hV] at this
    exact this
  intro d
  induction d with
  | zero =>
    intro m n x4 hm hn hs
    have e0 : m = x.length := by omega
    obtain ⟨k, rfl⟩ : ∃ k, n = k + 1 := ⟨n - 1, by omega⟩
    rw [qX2_wordBetween]
    unfold pX2_wordBetween_8
    have c1 : ¬ (113 : Int32) ≤ iZ (((flt pre).length + m : Nat) : Int) := by rw [iZ_l113, iZ_le (by omega) (by omega) (by omega) (by omega)]; omega
    have c2 : iZ (((flt pre).length + m : Nat) : Int) < 113 := by rw [iZ_l113, iZ_lt (by omega) (by omega) (by omega) (by omega)]; omega
    rw [vch _ (by omega), e0, (flt_at (m := 0)).2.1]
    rw [e0] at c1 c2
    refine ⟨fun z => absurd z c1, fun _ => ⟨iZ_in (by omega) (by omega) (by omega), c2, fun _ => ?_, fun z => absurd rfl z⟩⟩
    rw [iZ_sub, iZ_s1, iZ_s1]
    have g3 : (flt pre).length + x.length + 1 = (flt (pre ++ [x])).length := (flt_at (ws := ws) (m := 0)).2.2.symm
    rw [g3]
    rcases hs with ⟨h1, h2⟩ | ⟨h1, h2⟩
    · rw [h1, e0, iZ_eq (by omega) (by omega) (by omega) (by omega)]
      rw [e0] at h2
      refine ⟨fun z => hN (fun w => z ?_) k (by omega), fun z => hY (Pm_w.mp ⟨h2, by omega⟩)⟩
      have := (Pm_w.mpr w).2
      omega
    · rw [h1, iZ_eq (by omega) (by omega) (by omega) (by omega)]
      refine ⟨fun _ => hN (fun w => h2 ?_) k (by omega), fun z => absurd z (by omega)⟩
      rw [e0]; exact (Pm_w.mpr w).1
  | succ d ih =>
    intro m n x4 hm hn hs
    obtain ⟨k, rfl⟩ : ∃ k, n = k + 1 := ⟨n - 1, by omega⟩
    have hml : m < x.length := by omega
    have hc := hx (x.getD m 0) (by rw [List.getD_eq_getElem?_getD, List.getElem?_eq_getElem hml]; exact List.getElem_mem hml)
    rw [qX2_wordBetween]
    unfold pX2_wordBetween_8
    have c1 : ¬ (113 : Int32) ≤ iZ (((flt pre).length + m : Nat) : Int) := by rw [iZ_l113, iZ_le (by omega) (by omega) (by omega) (by omega)]; omega
    have c2 : iZ (((flt pre).length + m : Nat) : Int) < 113 := by rw [iZ_l113, iZ_lt (by omega) (by omega) (by omega) (by omega)]; omega
    have c3 : ¬ iZ (x.getD m 0) = 32 := by rw [iZ_l32, iZ_eq (by omega) (by omega) (by omega) (by omega)]; omega
    rw [vch _ (by omega), flt_at.1 hml]
    refine ⟨fun z => absurd z c1, fun _ => ⟨iZ_in (by omega) (by omega) (by omega), c2, fun z => absurd z c3, fun _ => ?_⟩⟩
    rw [iZ_s1, Nat.add_assoc]
    have no : ¬ Pm bt s (e - s) x (m + 1) → qX2_wordBetween N K R k 0 M a (iZ s) (iZ e) (iZ pre.length) (-1) (iZ (((flt pre).length + (m + 1) : Nat) : Int)) := fun h => ih (m + 1) k (-1) (by omega) (by omega) (Or.inr ⟨rfl, h⟩)
    rcases hs with ⟨h1, h2⟩ | ⟨h1, h2⟩
    · have mn := h2.1
      rw [h1, iZ_add]
      have q1 : ¬ iZ (m : Int) = -1 := by rw [iZ_n1, iZ_eq (by omega) (by omega) (by omega) (by omega)]; omega
      refine ⟨fun z => absurd z q1, fun _ => ?_⟩
      have q2 : (iZ (e : Int) ≤ iZ ((s : Int) + (m : Int))) = (e ≤ s + m) := by rw [iZ_le (by omega) (by omega) (by omega) (by omega)]; exact propext ⟨fun _ => by omega, fun _ => by omega⟩
      rw [q2]
      refine ⟨fun z => no (fun w => by have := (Pm_s.mp w).2.1; omega), fun z => ?_⟩
      have hb1 := hb (s + m) (by omega)
      rw [iZ_nat (by omega) (by omega), show ((s : Int) + (m : Int)).toNat = s + m by omega, hb1.1, iZ_eq (by omega) (by omega) (by omega) (by omega)]
      refine ⟨iZ_in (by omega) (by omega) (by omega), fun w => no (fun y => w (Pm_s.mp y).2.2.symm), fun w => ?_⟩
      rw [iZ_s1]
      exact ih (m + 1) k _ (by omega) (by omega) (Or.inl ⟨rfl, Pm_s.mpr ⟨h2, by omega, w.symm⟩⟩)
    · rw [h1]
      exact ⟨fun _ => no (fun w => h2 (Pm_s.mp w).1), fun z => absurd rfl z⟩
theorem cw_all {R : Int32 → Prop} (hse : s ≤ e) (he : e ≤ 400) (hb : ∀ i, i < e → g_mi M (a + 1) i = iZ (bt i) ∧ 0 ≤ bt i ∧ bt i ≤ 255) : ∀ (ws pre : List (List Int)), VC = pre ++ ws → R (iZ (match ixo ws (wrd bt s (e - s)) with | some i => ((pre.length + i : Nat) : Int) | none => 22)) → ∀ n, (flt ws).length + 1 ≤ n → qX2_wordBetween N K R n 0 M a (iZ s) (iZ e) (iZ pre.length) 0 (iZ (((flt pre).length : Nat) : Int)) := by
  intro ws
  induction ws with
  | nil =>
    intro pre hV hR n hn
    obtain ⟨k, rfl⟩ : ∃ k, n = k + 1 := ⟨n - 1, by omega⟩
    rw [qX2_wordBetween]
    unfold pX2_wordBetween_8
    rw [List.append_nil] at hV
    have h1 := VC_l
    rw [hV] at h1
    rw [h1]
    exact ⟨fun _ => hR, fun z => absurd (by decide) z⟩
  | cons x xs ih =>
    intro pre hV hR n hn
    have hfx : (flt (x :: xs)).length = x.length + 1 + (flt xs).length := by unfold flt; simp; omega
    have key := cw_one (N := N) (K := K) (a := a) (M := M) (bt := bt) (s := s) (e := e) (R := R) (pre := pre) (x := x) (ws := xs) hV (VC_n x (by rw [hV]; simp)) hse he hb (fun w => ?_) ((flt xs).length + 1) (fun w n2 hn2 => ?_) x.length 0 n 0 (by omega) (by omega) (Or.inl ⟨rfl, ⟨by omega, fun j hj => by omega⟩⟩)
    · exact key
    · rw [ixo, if_pos w] at hR
      exact hR
    · have := ih (pre ++ [x]) (by rw [hV]; simp) (by
        rw [ixo, if_neg w] at hR
        cases hi : ixo xs (wrd bt s (e - s)) with
        | none => rw [hi] at hR; exact hR
        | some i =>
          rw [hi] at hR
          dsimp only
          rw [List.length_append, List.length_singleton, show pre.length + 1 + i = pre.length + (i + 1) by omega]
          exact hR) n2 hn2
      rw [List.length_append, List.length_singleton] at this
      exact this
theorem cw_ok {R : Int32 → Prop} (hN : 200 ≤ N) (hse : s ≤ e) (he : e ≤ 400) (hb : ∀ i, i < e → g_mi M (a + 1) i = iZ (bt i) ∧ 0 ≤ bt i ∧ bt i ≤ 255) (hR : R (iZ (wtt (wrd bt s (e - s))))) : pX2_wordBetween N K M a (iZ s) (iZ e) R := by
  have h113 := VC_l
  refine cw_all (N := N) (K := K) hse he hb VC [] rfl ?_ N (by omega)
  unfold wtt at hR
  cases hi : ixo VC (wrd bt s (e - s)) with
  | none => rw [hi] at hR; exact hR
  | some i => rw [hi] at hR; dsimp only at hR ⊢; rw [List.length_nil, Nat.zero_add]; exact hR
end WD
