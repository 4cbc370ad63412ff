/-! The reference splits the tape. -/
def sb (x : Int) : Int := if x < 128 then x else x - 256
theorem sb_and : ∀ x : Fin 256, (iZ (sb ((x : Nat) : Int)) &&& 255) = iZ ((x : Nat) : Int) := by decide +kernel
theorem sbb {x : Int} (h1 : 0 ≤ x) (h2 : x ≤ 255) : -128 ≤ sb x ∧ sb x ≤ 127 := by unfold sb; split <;> omega
theorem sm_R {x : Int} (h1 : 0 ≤ x) (h2 : x ≤ 255) : fX9_isSmall (iZ (sb x)) = iB (decide (knd x = 0)) ∧ fX9_isDigit (iZ (sb x)) = iB (decide (knd x = 1)) := by
  have b := sbb h1 h2
  have e1 : (iZ (sb x) < 97) = (sb x < 97) := by rw [iZ_l97, iZ_lt (by omega) (by omega) (by omega) (by omega)]
  have e2 : (iZ (sb x) < 48) = (sb x < 48) := by rw [iZ_l48, iZ_lt (by omega) (by omega) (by omega) (by omega)]
  have e3 : ((57 : Int32) < iZ (sb x)) = (57 < sb x) := by rw [iZ_l57, iZ_lt (by omega) (by omega) (by omega) (by omega)]
  have e4 : ((122 : Int32) < iZ (sb x)) = (122 < sb x) := by rw [iZ_l122, iZ_lt (by omega) (by omega) (by omega) (by omega)]
  have s1 : (97 ≤ sb x ∧ sb x ≤ 122) ↔ (97 ≤ x ∧ x ≤ 122) := by unfold sb; split <;> omega
  have s2 : (48 ≤ sb x ∧ sb x ≤ 57) ↔ (48 ≤ x ∧ x ≤ 57) := by unfold sb; split <;> omega
  have q0 : knd x = 0 ↔ (97 ≤ x ∧ x ≤ 122) := by
    refine ⟨knd0, fun z => ?_⟩
    unfold knd; rw [if_pos z]
  have q1 : knd x = 1 ↔ (48 ≤ x ∧ x ≤ 57) := by
    refine ⟨knd1, fun z => ?_⟩
    unfold knd; rw [if_neg (by omega), if_pos z]
  unfold fX9_isSmall fX9_isDigit
  constructor
  · by_cases c1 : sb x < 97
    · rw [if_pos (by rw [e1]; exact c1), decide_eq_false (by rw [q0, ← s1]; omega)]; rfl
    · rw [if_neg (by rw [e1]; exact c1)]
      by_cases c2 : 122 < sb x
      · rw [if_pos (by rw [e4]; exact c2), decide_eq_false (by rw [q0, ← s1]; omega)]; rfl
      · rw [if_neg (by rw [e4]; exact c2), decide_eq_true (by rw [q0, ← s1]; omega)]; rfl
  · by_cases c1 : sb x < 48
    · rw [if_pos (by rw [e2]; exact c1), decide_eq_false (by rw [q1, ← s2]; omega)]; rfl
    · rw [if_neg (by rw [e2]; exact c1)]
      by_cases c2 : 57 < sb x
      · rw [if_pos (by rw [e3]; exact c2), decide_eq_false (by rw [q1, ← s2]; omega)]; rfl
      · rw [if_neg (by rw [e3]; exact c2), decide_eq_true (by rw [q1, ← s2]; omega)]; rfl
/-- the reference's words, its tape -/
def Vw (M : gM) (b : Nat) : Prop := ∀ j, j < 113 → g_mi M (b + 6) j = iZ ((flt VR).getD j 0)
def Mb (M : gM) (b : Nat) (bt : Nat → Int) (len : Nat) : Prop := len ≤ 400 ∧ ∀ i, i < len → g_mi M (b + 7) i = iZ (sb (bt i)) ∧ 0 ≤ bt i ∧ bt i ≤ 255
section MW
variable {N K b : Nat} {M : gM} {bt : Nat → Int} {s e : Nat}
theorem mw_one {R : Int32 → Prop} {pre : List (List Int)} {x : List Int} {ws : List (List Int)} (hV : VR = pre ++ x :: ws) (hx : ∀ c ∈ x, 97 ≤ c ∧ c ≤ 122) (hse : s ≤ e) (he : e ≤ 400) (hW : Vw M b) (hb : ∀ i, s ≤ i → i < e → g_mi M (b + 7) i = iZ (bt i) ∧ 97 ≤ bt i ∧ bt i ≤ 122) (hY : x = wrd bt s (e - s) → R (iZ ((pre.length + 1 : Nat) : Int))) (n0 : Nat) (hN : x ≠ wrd bt s (e - s) → ∀ n, n0 ≤ n → qX9_wordOf N K R n 0 M b (iZ s) (iZ e) (iZ ((pre.length + 1 + 1 : Nat) : Int)) (iZ (((flt (pre ++ [x])).length : Nat) : Int)) 0 0 0) (n : Nat) (hn : n0 + 2 * x.length + 3 ≤ n) : qX9_wordOf N K R n 0 M b (iZ s) (iZ e) (iZ ((pre.length + 1 : Nat) : Int)) (iZ (((flt pre).length : Nat) : Int)) 0 0 0 := by
  have hfl : (flt pre).length + x.length + 1 ≤ 113 := by
    have h1 := VR_l
    rw [hV] at h1
    have e : flt (pre ++ x :: ws) = flt pre ++ (x ++ (32 :: flt ws)) := by unfold flt; simp
    rw [e] at h1
    simp at h1
    omega
  have g3 : (flt pre).length + (x.length + 1) = (flt (pre ++ [x])).length := by have := (flt_at (pre := pre) (x := x) (ws := ws) (m := 0)).2.2; omega
  have wv : ∀ m, m < x.length → g_mi M (b + 6) ((flt pre).length + m) = iZ (x.getD m 0) := fun m hm => by
    rw [hW _ (by omega), hV, flt_at.1 hm]
  have wb : g_mi M (b + 6) ((flt pre).length + x.length) = iZ 32 := by
    rw [hW _ (by omega), hV, (flt_at (m := 0)).2.1]
  have xc : ∀ m, m < x.length → 97 ≤ x.getD m 0 ∧ x.getD m 0 ≤ 122 := fun m hm => hx _ (by rw [List.getD_eq_getElem?_getD, List.getElem?_eq_getElem hm]; exact List.getElem_mem hm)
  have next : x ≠ wrd bt s (e - s) → ∀ n, n0 ≤ n → qX9_wordOf N K R n 0 M b (iZ s) (iZ e) (iZ ((pre.length + 1 : Nat) : Int) + 1) (iZ (((flt pre).length : Nat) : Int) + (iZ ((x.length : Nat) : Int) + 1)) 0 0 0 := fun w n2 h2 => by
    rw [iZ_s1, iZ_s1, iZ_add]
    have := hN w n2 h2
    rw [← g3] at this
    exact this
  -- letter by letter
  have cmp : ∀ (d i n2 : Nat) (x6 : Int32), i + d = x.length → n0 + d + 1 ≤ n2 → ((x6 = 1 ∧ x.length = e - s ∧ Pm bt s (e - s) x i) ∨ (x6 = 0 ∧ x ≠ wrd bt s (e - s))) → qX9_wordOf N K R n2 2 M b (iZ s) (iZ e) (iZ ((pre.length + 1 : Nat) : Int)) (iZ (((flt pre).length : Nat) : Int)) (iZ ((x.length : Nat) : Int)) x6 (iZ i) := by
    intro d
    induction d with
    | zero =>
      intro i n2 x6 hi h2 hs
      obtain ⟨k, rfl⟩ : ∃ k, n2 = k + 1 := ⟨n2 - 1, by omega⟩
      rw [qX9_wordOf, if_neg (by decide), if_neg (by decide)]
      unfold pX9_wordOf_57
      have ei : i = x.length := by omega
      have c1 : iZ ((x.length : Nat) : Int) ≤ iZ (i : Int) := by rw [iZ_le (by omega) (by omega) (by omega) (by omega)]; omega
      refine ⟨fun _ => ?_, fun z => absurd c1 z⟩
      rcases hs with ⟨h3, h4, h5⟩ | ⟨h3, h4⟩
      · rw [h3]
        rw [ei] at h5
        exact ⟨fun z => absurd z one0, fun _ => hY (Pm_w.mp ⟨h5, h4⟩)⟩
      · rw [h3]
        exact ⟨fun _ => next h4 k (by omega), fun z => absurd rfl z⟩
    | succ d ih =>
      intro i n2 x6 hi h2 hs
      obtain ⟨k, rfl⟩ : ∃ k, n2 = k + 1 := ⟨n2 - 1, by omega⟩
      rw [qX9_wordOf, if_neg (by decide), if_neg (by decide)]
      unfold pX9_wordOf_57
      have c1 : ¬ iZ ((x.length : Nat) : Int) ≤ iZ (i : Int) := by rw [iZ_le (by omega) (by omega) (by omega) (by omega)]; omega
      refine ⟨fun z => absurd z c1, fun _ => ?_⟩
      rcases hs with ⟨h3, h4, h5⟩ | ⟨h3, h4⟩
      · rw [h3]
        refine ⟨fun z => absurd z one0, fun _ => ?_⟩
        have q1 := xc i (by omega)
        have q2 := hb (s + i) (by omega) (by omega)
        rw [iZ_add, iZ_add, iZ_nat (by omega) (by omega), iZ_nat (by omega) (by omega), show ((((flt pre).length : Nat) : Int) + (i : Int)).toNat = (flt pre).length + i by omega, show ((s : Int) + (i : Int)).toNat = s + i by omega, wv i (by omega), q2.1, iZ_s1, iZ_eq (by omega) (by omega) (by omega) (by omega)]
        refine ⟨iZ_in (by omega) (by omega) (by omega), iZ_in (by omega) (by omega) (by omega), fun w => ?_, fun w => ?_⟩
        · refine ih (i + 1) k 0 (by omega) (by omega) (Or.inr ⟨rfl, fun y => w ?_⟩)
          have := (Pm_w.mpr y).1.2 i (by omega)
          exact this
        · exact ih (i + 1) k 1 (by omega) (by omega) (Or.inl ⟨rfl, h4, Pm_s.mpr ⟨h5, by omega, w⟩⟩)
      · rw [h3]
        exact ⟨fun _ => next h4 k (by omega), fun z => absurd rfl z⟩
  -- to its blank
  have scan : ∀ (d i n2 : Nat), i + d = x.length → n0 + x.length + d + 2 ≤ n2 → qX9_wordOf N K R n2 1 M b (iZ s) (iZ e) (iZ ((pre.length + 1 : Nat) : Int)) (iZ (((flt pre).length : Nat) : Int)) (iZ i) 0 0 := by
    intro d
    induction d with
    | zero =>
      intro i n2 hi h2
      obtain ⟨k, rfl⟩ : ∃ k, n2 = k + 1 := ⟨n2 - 1, by omega⟩
      have ei : i = x.length := by omega
      subst ei
      rw [qX9_wordOf, if_neg (by decide), if_pos rfl]
      unfold pX9_wordOf_18
      rw [iZ_add, iZ_nat (by omega) (by omega), show ((((flt pre).length : Nat) : Int) + ((x.length : Nat) : Int)).toNat = (flt pre).length + x.length by omega, wb, iZ_sub]
      have q : (iZ ((x.length : Nat) : Int) = iZ ((e : Int) - (s : Int))) = (x.length = e - s) := by rw [iZ_eq (by omega) (by omega) (by omega) (by omega)]; exact propext ⟨fun _ => by omega, fun _ => by omega⟩
      rw [q]
      refine ⟨iZ_in (by omega) (by omega) (by omega), fun _ => ⟨fun w => ?_, fun w => ?_⟩, fun w => absurd rfl w⟩
      · exact cmp x.length 0 k 0 (by omega) (by omega) (Or.inr ⟨rfl, fun y => w (Pm_w.mpr y).2⟩)
      · exact cmp x.length 0 k 1 (by omega) (by omega) (Or.inl ⟨rfl, w, ⟨by omega, fun j hj => by omega⟩⟩)
    | succ d ih =>
      intro i n2 hi h2
      obtain ⟨k, rfl⟩ : ∃ k, n2 = k + 1 := ⟨n2 - 1, by omega⟩
      have q1 := xc i (by omega)
      rw [qX9_wordOf, if_neg (by decide), if_pos rfl]
      unfold pX9_wordOf_18
      rw [iZ_add, iZ_nat (by omega) (by omega), show ((((flt pre).length : Nat) : Int) + (i : Int)).toNat = (flt pre).length + i by omega, wv i (by omega), iZ_s1]
      have q : ¬ iZ (x.getD i 0) = 32 := by rw [iZ_l32, iZ_eq (by omega) (by omega) (by omega) (by omega)]; omega
      exact ⟨iZ_in (by omega) (by omega) (by omega), fun w => absurd w q, fun _ => ih (i + 1) k (by omega) (by omega)⟩
  obtain ⟨k, rfl⟩ : ∃ k, n = k + 1 := ⟨n - 1, by omega⟩
  rw [qX9_wordOf, if_pos rfl]
  unfold pX9_wordOf_5
  have c1 : ¬ (113 : Int32) ≤ iZ (((flt pre).length : Nat) : Int) := by rw [iZ_l113, iZ_le (by omega) (by omega) (by omega) (by omega)]; omega
  exact ⟨fun z => absurd z c1, fun _ => scan x.length 0 k (by omega) (by omega)⟩
theorem mw_all {R : Int32 → Prop} (hse : s ≤ e) (he : e ≤ 400) (hW : Vw M b) (hb : ∀ i, s ≤ i → i < e → g_mi M (b + 7) i = iZ (bt i) ∧ 97 ≤ bt i ∧ bt i ≤ 122) : ∀ (ws pre : List (List Int)), VR = pre ++ ws → R (iZ (match ixo ws (wrd bt s (e - s)) with | some i => ((pre.length + i + 1 : Nat) : Int) | none => 0)) → ∀ n, 3 * (flt ws).length + 1 ≤ n → qX9_wordOf N K R n 0 M b (iZ s) (iZ e) (iZ ((pre.length + 1 : Nat) : Int)) (iZ (((flt pre).length : Nat) : Int)) 0 0 0 := by
  intro ws
  induction ws with
  | nil =>
    intro pre hV hR n hn
    obtain ⟨k, rfl⟩ : ∃ k, n = k + 1 := ⟨n - 1, by omega⟩
    rw [qX9_wordOf, if_pos rfl]
    unfold pX9_wordOf_5
    rw [List.append_nil] at hV
    have h1 := VR_l
    rw [hV] at h1
    rw [h1]
    exact ⟨fun _ => hR, fun z => absurd (by decide) z⟩
  | cons x xs ih =>
    intro pre hV hR n hn
    have hfx : (flt (x :: xs)).length = x.length + 1 + (flt xs).length := by unfold flt; simp; omega
    refine mw_one hV (VR_n x (by rw [hV]; simp)) hse he hW hb (fun w => ?_) (3 * (flt xs).length + 1) (fun w n2 hn2 => ?_) n (by omega)
    · rw [ixo, if_pos w] at hR
      exact hR
    · have := ih (pre ++ [x]) (by rw [hV]; simp) (by
        rw [ixo, if_neg w] at hR
        cases hi : ixo xs (wrd bt s (e - s)) with
        | none => rw [hi] at hR; exact hR
        | some i =>
          rw [hi] at hR
          dsimp only
          rw [List.length_append, List.length_singleton, show pre.length + 1 + i + 1 = pre.length + (i + 1) + 1 by omega]
          exact hR) n2 hn2
      rw [List.length_append, List.length_singleton] at this
      exact this
theorem mw_ok {R : Int32 → Prop} (hN : 500 ≤ N) (hse : s ≤ e) (he : e ≤ 400) (hW : Vw M b) (hb : ∀ i, s ≤ i → i < e → g_mi M (b + 7) i = iZ (bt i) ∧ 97 ≤ bt i ∧ bt i ≤ 122) (hR : R (iZ (wcc (wrd bt s (e - s))))) : pX9_wordOf N K M b (iZ s) (iZ e) R := by
  have h113 := VR_l
  refine mw_all (N := N) (K := K) hse he hW hb VR [] rfl ?_ N (by omega)
  unfold wcc at hR
  cases hi : ixo VR (wrd bt s (e - s)) with
  | none => rw [hi] at hR; exact hR
  | some i => rw [hi] at hR; dsimp only at hR ⊢; rw [List.length_nil, Nat.zero_add]; exact hR
end MW
