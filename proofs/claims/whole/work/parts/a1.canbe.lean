/-! Calls: canBe, ask. -/
theorem hvr {k v s d : Int} (d0 : 2 ≤ d) (d1 : d ≤ 20) : (decide (0 ≤ v ∧ v < 3 * d) && hv k v s d) = hv k v s d := by
  cases h : hv k v s d with
  | false => simp
  | true =>
    have h0 := vx_n (k := k) (j := 0) (s := s) (by omega) (by omega) d0 d1
    have h1 := vx_n (k := k) (j := 1) (s := s) (by omega) (by omega) d0 d1
    have h2 := vx_n (k := k) (j := 2) (s := s) (by omega) (by omega) d0 d1
    unfold hv at h
    simp only [Bool.or_eq_true, decide_eq_true_eq] at h
    rw [decide_eq_true (by omega)]
    rfl
def soF (r : Nat → Int) (k : Int) : Nat → Bool
  | 0 => true
  | n + 1 => soF r k n && (hv k (r (188 + 2 * n)) (r 32) (r 31) == decide (r (188 + 2 * n + 1) = 1))
theorem soF_f {r : Nat → Int} {k : Int} : ∀ (e n : Nat), soF r k n = false → soF r k (n + e) = false := by
  intro e
  induction e with
  | zero => intro n h; exact h
  | succ e ih => intro n h; rw [show n + (e + 1) = (n + e) + 1 by omega, soF, ih n h]; rfl
def soK (r : Nat → Int) (j : Nat) : Bool := soF r (r (1 + j)) (r 202).toNat
def PLs (r : Nat → Int) : Nat → List Int
  | 0 => []
  | n + 1 => if soK r n = true then PLs r n ++ [r (1 + n)] else PLs r n
theorem PLs_len {r : Nat → Int} : ∀ n, (PLs r n).length ≤ n := by
  intro n
  induction n with
  | zero => exact Nat.le_refl _
  | succ n ih =>
    rw [PLs]
    split
    · rw [List.length_append]
      simp
      omega
    · omega
theorem PLs_pre {r : Nat → Int} {k : Nat} : ∀ (e j : Nat), j < (PLs r k).length → (PLs r (k + e))[j]? = (PLs r k)[j]? := by
  intro e
  induction e with
  | zero => intro j _; rfl
  | succ e ih =>
    intro j hj
    have h := ih j hj
    have hl : j < (PLs r (k + e)).length := by
      have := List.getElem?_eq_getElem hj
      rw [this] at h
      exact (List.getElem?_eq_some_iff.mp h).1
    rw [show k + (e + 1) = (k + e) + 1 by omega, PLs]
    split
    · rw [List.getElem?_append_left hl]; exact h
    · exact h
theorem PLs_le {r : Nat → Int} {k : Nat} : ∀ e, (PLs r k).length ≤ (PLs r (k + e)).length := by
  intro e
  induction e with
  | zero => exact Nat.le_refl _
  | succ e ih =>
    rw [show k + (e + 1) = (k + e) + 1 by omega, PLs]
    split
    · rw [List.length_append]; omega
    · exact ih
def cbA (r : Nat → Int) (x : Int) : Int := if x = -1 then ((PLs r (r 0).toNat).length : Int) else if 0 ≤ x then ((PLs r (r 0).toNat)[x.toNat]?).getD (-1) else -1
section CB8
variable {N K A : Nat} {r : Nat → Int} {M : gM}
def Sn8 (M : gM) (w : Nat) (r : Nat → Int) : Prop := g_mi M w 4 = iZ (r 202) ∧ ∀ i : Nat, (i : Int) < r 202 → g_mi M (w + 8) i = iZ (r (188 + 2 * i)) ∧ g_mi M (w + 9) i = iZ (r (188 + 2 * i + 1))
theorem fs_8 {w : Nat} {k : Int} {R : Int32 → Prop} (hN : 500 ≤ N) (vr : Vr r) (hR : Rk M (w + 1) r) (hS : Sn8 M w r) (k0 : 0 ≤ k) (k1 : k ≤ 999) (hE : R (iB (soF r k (r 202).toNat))) : pX7_fitsSeen N K M w (iZ k) R := by
  have nb := vr.n
  have d0 := vr.k.2.2.2.2.1
  have d1 := vr.k.2.2.2.2.2.1
  have loop : ∀ (e i n : Nat), i + e = (r 202).toNat → e + 1 ≤ n → soF r k i = true → qX7_fitsSeen N K R n 0 M w (iZ k) (iZ i) := by
    intro e
    induction e with
    | zero =>
      intro i n hi hn hs
      obtain ⟨n2, rfl⟩ : ∃ n2, n = n2 + 1 := ⟨n - 1, by omega⟩
      rw [qX7_fitsSeen]
      unfold pX7_fitsSeen_2
      have c1 : g_mi M w 4 ≤ iZ (i : Int) := by rw [hS.1, iZ_le (by omega) (by omega) (by omega) (by omega)]; omega
      rw [show (r 202).toNat = i by omega, hs] at hE
      exact ⟨fun _ => hE, fun z => absurd c1 z⟩
    | succ e ih =>
      intro i n hi hn hs
      obtain ⟨n2, rfl⟩ : ∃ n2, n = n2 + 1 := ⟨n - 1, by omega⟩
      rw [qX7_fitsSeen]
      unfold pX7_fitsSeen_2
      have c1 : ¬ g_mi M w 4 ≤ iZ (i : Int) := by rw [hS.1, iZ_le (by omega) (by omega) (by omega) (by omega)]; omega
      obtain ⟨s1, s2⟩ := hS.2 i (by omega)
      obtain ⟨b1, b2⟩ := vr.sn i (by omega)
      obtain ⟨q1, q2⟩ := keyHas_8 (k := k) (v := r (188 + 2 * i)) vr.k hR k0 k1 (by omega) (by omega)
      rw [hvr d0 d1] at q2
      have c2 : (iZ (r (188 + 2 * i + 1)) = 1) = (r (188 + 2 * i + 1) = 1) := by rw [iZ_l1, iZ_eq (by omega) (by omega) (by omega) (by omega)]
      rw [iZ_cl (show i < 2147483648 by omega), s1, s2, c2, iZ_s1]
      refine ⟨fun z => absurd z c1, fun _ => ⟨iZ_in (by omega) (by omega) (by omega), q1, fun v1 hv1 => ?_⟩⟩
      rw [q2] at hv1
      subst hv1
      rw [iB_0, iB_1]
      have go : (hv k (r (188 + 2 * i)) (r 32) (r 31) == decide (r (188 + 2 * i + 1) = 1)) = true → qX7_fitsSeen N K R n2 0 M w (iZ k) (iZ ((i + 1 : Nat) : Int)) := fun h => ih (i + 1) n2 (by omega) (by omega) (by rw [soF, hs, h]; rfl)
      have no : (hv k (r (188 + 2 * i)) (r 32) (r 31) == decide (r (188 + 2 * i + 1) = 1)) = false → R 0 := fun h => by
        have : soF r k (i + 1) = false := by rw [soF, hs, h]; rfl
        have := soF_f e (i + 1) this
        rw [show i + 1 + e = (r 202).toNat by omega] at this
        rw [this] at hE; exact hE
      refine ⟨fun z => ⟨fun y => go (by rw [y, decide_eq_false z]; rfl), fun y => no ?_⟩, fun z => ⟨fun y => go (by rw [y, decide_eq_true z]; rfl), fun y => no ?_⟩⟩
      · cases h : hv k (r (188 + 2 * i)) (r 32) (r 31) with
        | false => exact absurd h y
        | true => rw [decide_eq_false z]; rfl
      · cases h : hv k (r (188 + 2 * i)) (r 32) (r 31) with
        | true => exact absurd h y
        | false => rw [decide_eq_true z]; rfl
  unfold pX7_fitsSeen pX7_fitsSeen_0
  exact loop (r 202).toNat 0 N (by omega) (by omega) rfl
def Pos (M : gM) (A : Nat) (L : List Int) : Prop := ∀ (j : Nat) x, L[j]? = some x → g_mi M (A + 305) j = iZ x
theorem cl_8 {R : Int32 → gM → Prop} (hN : 500 ≤ N) (vr : Vr r) (hR : Rk M (A + 1 + 1) r) (hS : Sn8 M (A + 1) r) (hE : ∀ M1, (∀ c, c ≠ A + 305 → g_mi M1 c = g_mi M c) → Pos M1 A (PLs r (r 0).toNat) → R (iZ (PLs r (r 0).toNat).length) M1) : pX8_collectPossible N K M A R := by
  have v0 := vr.k.1
  have v30 := vr.k.2.1
  have loop : ∀ (e i n : Nat) (M1 : gM), i + e = (r 0).toNat → e + 1 ≤ n → (∀ c, c ≠ A + 305 → g_mi M1 c = g_mi M c) → Pos M1 A (PLs r i) → qX8_collectPossible N K R n 0 M1 A (A + 1 + 1) (iZ (PLs r i).length) (iZ i) := by
    intro e
    induction e with
    | zero =>
      intro i n M1 hi hn f hP
      obtain ⟨n2, rfl⟩ : ∃ n2, n = n2 + 1 := ⟨n - 1, by omega⟩
      rw [qX8_collectPossible]
      unfold pX8_collectPossible_12
      have c1 : g_mi M1 (A + 1 + 1) 3 ≤ iZ (i : Int) := by rw [f _ (by omega), hR.1, iZ_le (by omega) (by omega) (by omega) (by omega)]; omega
      have e0 : (r 0).toNat = i := by omega
      rw [e0] at hE
      exact ⟨fun _ => hE M1 f hP, fun z => absurd c1 z⟩
    | succ e ih =>
      intro i n M1 hi hn f hP
      obtain ⟨n2, rfl⟩ : ∃ n2, n = n2 + 1 := ⟨n - 1, by omega⟩
      rw [qX8_collectPossible]
      unfold pX8_collectPossible_12
      have c1 : ¬ g_mi M1 (A + 1 + 1) 3 ≤ iZ (i : Int) := by rw [f _ (by omega), hR.1, iZ_le (by omega) (by omega) (by omega) (by omega)]; omega
      have kb := vr.k.2.2.1 i (by omega)
      have pl := PLs_len (r := r) i
      rw [iZ_cl (show i < 2147483648 by omega), f (A + 1 + 1 + 1) (by omega), hR.2.1 i (by omega)]
      refine ⟨fun z => absurd z c1, fun _ => ⟨iZ_in (by omega) (by omega) (by omega), fs_8 hN vr ?_ ?_ kb.1 kb.2 ?_⟩⟩
      · unfold Rk
        rw [f _ (by omega), f _ (by omega), f _ (by omega)]; exact hR
      · unfold Sn8
        rw [f _ (by omega), f _ (by omega), f _ (by omega)]; exact hS
      · show (iB (soK r i) = 0 → _) ∧ (¬ iB (soK r i) = 0 → _)
        rw [iB_0, iZ_s1 i]
        have nx := ih (i + 1) n2
        rw [PLs] at nx
        refine ⟨fun z => ?_, fun z => ?_⟩
        · rw [if_neg (by rw [z]; decide)] at nx
          exact nx M1 (by omega) (by omega) f hP
        · have z2 : soK r i = true := by cases h : soK r i with | true => rfl | false => exact absurd h z
          rw [if_pos z2] at nx
          rw [iZ_cl (show (PLs r i).length < 2147483648 by omega), iZ_s1]
          refine ⟨iZ_in (by omega) (by omega) (by omega), fun M2 h2 => ?_⟩
          obtain ⟨a1, a2, a3⟩ := wi_k h2
          have := nx M2 (by omega) (by omega) (fun c q => by rw [a1 c q, f c q]) (fun j x hx => by
            rcases Nat.lt_or_ge j (PLs r i).length with w | w
            · rw [List.getElem?_append_left w] at hx
              rw [a2 j (by omega)]; exact hP j x hx
            · rw [List.getElem?_append_right w] at hx
              have jl : j = (PLs r i).length := by
                rcases Nat.lt_or_ge 0 (j - (PLs r i).length) with w2 | w2
                · rw [List.getElem?_eq_none (by simp; omega)] at hx; cases hx
                · omega
              subst jl
              rw [Nat.sub_self] at hx
              cases hx
              exact a3)
          rw [List.length_append] at this
          exact this
  unfold pX8_collectPossible pX8_collectPossible_0
  exact loop (r 0).toNat 0 N M (by omega) (by omega) (fun _ _ => rfl) (fun j x hx => (by cases hx))
end CB8
section CB9
variable {N K b : Nat} {r : Nat → Int} {M : gM}
theorem hs_9 {k v : Int} {R : Int32 → Prop} (hN : 500 ≤ N) (hV : Vk r) (hR : Rr M b r) (k0 : 0 ≤ k) (k1 : k ≤ 999) (b1 : -2147483648 ≤ v) (b2 : v < 2147483648) (hE : R (iB (hv k v (r 32) (r 31)))) : pX9_has N K M b (iZ k) (iZ v) R := by
  unfold pX9_has
  rw [hR 32 (by omega), hR 31 (by omega)]
  obtain ⟨h1, h2⟩ := hv_9 (N := N) (M := M) (k := k) (v := v) (by omega) k0 k1 b1 b2 hV.2.2.2.2.2.2.1 hV.2.2.2.2.2.2.2.1 hV.2.2.2.2.1 hV.2.2.2.2.2.1
  refine ⟨h1, fun v1 hv1 => ?_⟩
  rw [h2] at hv1
  subst hv1
  exact ⟨iB_o, hE⟩
theorem is_9 {k : Int} {R : Int32 → Prop} (hN : 500 ≤ N) (vr : Vr r) (hR : Rr M b r) (k0 : 0 ≤ k) (k1 : k ≤ 999) (hE : R (iB (soF r k (r 202).toNat))) : pX9_isSo N K M b (iZ k) R := by
  have nb := vr.n
  have loop : ∀ (e i n : Nat), i + e = (r 202).toNat → e + 1 ≤ n → qX9_isSo N K R n 0 M b (iZ k) (iB (soF r k i)) (iZ i) := by
    intro e
    induction e with
    | zero =>
      intro i n hi hn
      obtain ⟨n2, rfl⟩ : ∃ n2, n = n2 + 1 := ⟨n - 1, by omega⟩
      rw [qX9_isSo]
      unfold pX9_isSo_4
      have c1 : g_mi M (b + 2) 202 ≤ iZ (i : Int) := by rw [hR 202 (by omega), iZ_le (by omega) (by omega) (by omega) (by omega)]; omega
      rw [show (r 202).toNat = i by omega] at hE
      exact ⟨fun _ => ⟨iB_o, hE⟩, fun z => absurd c1 z⟩
    | succ e ih =>
      intro i n hi hn
      obtain ⟨n2, rfl⟩ : ∃ n2, n = n2 + 1 := ⟨n - 1, by omega⟩
      rw [qX9_isSo]
      unfold pX9_isSo_4
      have c1 : ¬ g_mi M (b + 2) 202 ≤ iZ (i : Int) := by rw [hR 202 (by omega), iZ_le (by omega) (by omega) (by omega) (by omega)]; omega
      obtain ⟨b1, b2⟩ := vr.sn i (by omega)
      have ex : (188 : Int32) + 2 * iZ (i : Int) = iZ ((188 + 2 * i : Nat) : Int) := by rw [iZ_l188, iZ_l2, iZ_mul, iZ_add]; congr 1
      have c2 : (iZ (r (188 + 2 * i + 1)) = 1) = (r (188 + 2 * i + 1) = 1) := by rw [iZ_l1, iZ_eq (by omega) (by omega) (by omega) (by omega)]
      have nx := ih (i + 1) n2 (by omega) (by omega)
      rw [soF] at nx
      rw [ex, iZ_s1 (188 + 2 * i), iZ_cl (show 188 + 2 * i < 2147483648 by omega), iZ_cl (show 188 + 2 * i + 1 < 2147483648 by omega), hR (188 + 2 * i) (by omega), hR (188 + 2 * i + 1) (by omega), c2, iZ_s1 i, iB_0]
      refine ⟨fun z => absurd z c1, fun _ => ⟨fun z => ?_, fun z => ⟨iZ_in (by omega) (by omega) (by omega), hs_9 hN vr.k hR k0 k1 (by omega) (by omega) ⟨iZ_in (by omega) (by omega) (by omega), ?_⟩⟩⟩⟩
      · rw [z] at nx; exact nx
      · have z2 : soF r k i = true := by cases h : soF r k i with | true => rfl | false => exact absurd h z
        rw [z2] at nx
        rw [iB_0, iB_1]
        have t1 : (hv k (r (188 + 2 * i)) (r 32) (r 31) == decide (r (188 + 2 * i + 1) = 1)) = true → qX9_isSo N K R n2 0 M b (iZ k) 1 (iZ ((i + 1 : Nat) : Int)) := fun h => by rw [h] at nx; exact nx
        have t0 : (hv k (r (188 + 2 * i)) (r 32) (r 31) == decide (r (188 + 2 * i + 1) = 1)) = false → qX9_isSo N K R n2 0 M b (iZ k) 0 (iZ ((i + 1 : Nat) : Int)) := fun h => by rw [h] at nx; exact nx
        refine ⟨fun y => ⟨fun w => t0 ?_, fun w => t1 (by rw [w, decide_eq_false y]; rfl)⟩, fun y => ⟨fun w => t0 ?_, fun w => t1 (by rw [w, decide_eq_true y]; rfl)⟩⟩
        · cases h : hv k (r (188 + 2 * i)) (r 32) (r 31) with
          | false => exact absurd h w
          | true => rw [decide_eq_false y]; rfl
        · cases h : hv k (r (188 + 2 * i)) (r 32) (r 31) with
          | true => exact absurd h w
          | false => rw [decide_eq_true y]; rfl
  unfold pX9_isSo pX9_isSo_0
  exact loop (r 202).toNat 0 N (by omega) (by omega)
theorem cb_9 {x : Int} {R : Int32 → Prop} (hN : 500 ≤ N) (vr : Vr r) (hR : Rr M b r) (x1 : -2147483648 ≤ x) (x2 : x < 2147483648) (hE : R (iZ (cbA r x))) : pX9_canBe N K M b (iZ x) R := by
  have v0 := vr.k.1
  have v30 := vr.k.2.1
  have c0 : (-1 ≤ iZ x) = (-1 ≤ x) := by rw [iZ_n1, iZ_le (by omega) (by omega) (by omega) (by omega)]
  have c1 : (iZ x = -1) = (x = -1) := by rw [iZ_n1, iZ_eq (by omega) (by omega) (by omega) (by omega)]
  unfold cbA at hE
  unfold pX9_canBe pX9_canBe_0
  rw [c0]
  refine ⟨fun z => ?_, fun z => ?_⟩
  · have loop : ∀ (e k n : Nat), k + e = (r 0).toNat → e + 1 ≤ n → (0 ≤ x → ((PLs r k).length : Int) ≤ x) → qX9_canBe N K R n 0 M b (iZ x) (iZ (PLs r k).length) (iZ k) := by
      intro e
      induction e with
      | zero =>
        intro k n hk hn hl
        obtain ⟨n2, rfl⟩ : ∃ n2, n = n2 + 1 := ⟨n - 1, by omega⟩
        rw [qX9_canBe]
        unfold pX9_canBe_11
        have q1 : g_mi M (b + 2) 0 ≤ iZ (k : Int) := by rw [hR 0 (by omega), iZ_le (by omega) (by omega) (by omega) (by omega)]; omega
        have e0 : (r 0).toNat = k := by omega
        rw [e0] at hE
        rw [c1]
        refine ⟨fun _ => ⟨fun w => ?_, fun w => ?_⟩, fun w => absurd q1 w⟩
        · rw [if_neg w, if_pos (by omega), List.getElem?_eq_none (by have := hl (by omega); omega)] at hE
          rw [iZ_n1]; exact hE
        · rw [if_pos w] at hE; exact hE
      | succ e ih =>
        intro k n hk hn hl
        obtain ⟨n2, rfl⟩ : ∃ n2, n = n2 + 1 := ⟨n - 1, by omega⟩
        rw [qX9_canBe]
        unfold pX9_canBe_11
        have q1 : ¬ g_mi M (b + 2) 0 ≤ iZ (k : Int) := by rw [hR 0 (by omega), iZ_le (by omega) (by omega) (by omega) (by omega)]; omega
        have kb := vr.k.2.2.1 k (by omega)
        have pl := PLs_len (r := r) k
        obtain ⟨k1, k2⟩ := ka_9 (i := k) hR (by omega)
        rw [k2]
        refine ⟨fun w => absurd w q1, fun _ => ⟨k1, fun v1 hv1 => ?_⟩⟩
        subst hv1
        refine is_9 hN vr hR kb.1 kb.2 ?_
        show (¬ iB (soK r k) = 0 → _) ∧ (iB (soK r k) = 0 → _)
        have ec : (iZ ((PLs r k).length : Int) = iZ x) = (((PLs r k).length : Int) = x) := by rw [iZ_eq (by omega) (by omega) (by omega) (by omega)]
        rw [iB_0, ec, iZ_s1 k]
        have nx := ih (k + 1) n2 (by omega) (by omega)
        rw [PLs] at nx
        refine ⟨fun w => ?_, fun w => ?_⟩
        · have w2 : soK r k = true := by cases h : soK r k with | true => rfl | false => exact absurd h w
          rw [if_pos w2] at nx
          refine ⟨fun y => ?_, fun y v3 hv3 => ?_⟩
          · rw [iZ_s1]
            have := nx (fun h => by have := hl h; rw [List.length_append]; simp; omega)
            rw [List.length_append] at this
            exact this
          · subst hv3
            have hg : (PLs r (r 0).toNat)[x.toNat]? = some (r (1 + k)) := by
              have e1 : (PLs r (k + 1)) = PLs r k ++ [r (1 + k)] := by rw [PLs, if_pos w2]
              have e2 : (PLs r (k + 1))[x.toNat]? = some (r (1 + k)) := by
                rw [e1, List.getElem?_append_right (by omega), show x.toNat - (PLs r k).length = 0 by omega]; rfl
              have := PLs_pre (r := r) (k := k + 1) e x.toNat (by rw [e1, List.length_append]; simp; omega)
              rw [show k + 1 + e = (r 0).toNat by omega, e2] at this
              exact this
            rw [if_neg (by omega), if_pos (by omega), hg] at hE
            exact hE
        · rw [if_neg (by rw [w]; decide)] at nx
          exact nx hl
    exact loop (r 0).toNat 0 N (by omega) (by omega) (fun h => by show (0 : Int) ≤ x; exact h)
  · rw [if_neg (by omega), if_neg (by omega)] at hE
    rw [iZ_n1]; exact hE
end CB9
section OBB
variable {X : gX} {A : Nat} {x1 : Int32}
theorem IC.sn {M : gM} {r : Nat → Int} {lw : LWs} {H : List ((Nat → Int) × Int)} {im : Nat → Option (Nat → Int)} {ilw : Nat → LWs} {bt : Nat → Int} {ln : Nat} {fr dr ms : Nat → Int32} (h : IC M A r lw H im ilw bt ln fr dr ms) : Sn8 M (A + 1) r := ⟨h.2.1.2.1, h.2.1.2.2.2.2.1⟩
theorem F305 {M M1 : gM} (h : ∀ c, c ≠ A + 305 → g_mi M1 c = g_mi M c) : Q8 A M M1 := fun c j q => by unfold pcA at q; rw [h c (by omega)]
theorem ob_canBe : Ob X 1311 0 0 kX8_canBe kX9_canBe (INV A) A (A + 329) [.int x1] := by
  obtain ⟨x, rfl, b1, b2⟩ := i32x x1
  refine ob_q (P8 := fun M R => pX8_canBe 20000 1290 M A (iZ x) R) (P9 := fun M R => pX9_canBe 20000 1290 M (A + 329) (iZ x) (fun v => R v M)) (fun M R Q s hh hR => uX8_canBe (d := 1307) s hh (fun v M1 j h => hR v M1 j.l h)) (fun M R Q s hh hR => uX9_canBe (d := 1307) s hh (fun v h => hR v M ⟨rfl, rfl, rfl⟩ h)) (fun r lw H im ilw bt ln fr dr ms hp => ⟨iZ (cbA r x), fun M hc R hR => ?_, fun M hr R hR => ?_⟩)
  · have pl := PLs_len (r := r) (r 0).toNat
    have v30 := hp.1.k.2.1
    unfold pX8_canBe
    refine cl_8 (by omega) hp.1 hc.rs.1 hc.sn (fun M1 f1 P1 => ?_)
    have hE := hR M1 (F305 f1)
    unfold cbA at hE
    rw [show (iZ x = -1) = (x = -1) by rw [iZ_n1, iZ_eq (by omega) (by omega) (by omega) (by omega)], iZ_l0, iZ_lt (by omega) (by omega) (by omega) (by omega), iZ_le (by omega) (by omega) (by omega) (by omega)]
    refine ⟨fun z => ⟨fun z2 => ?_, fun z2 => ⟨fun z3 => ?_, fun z3 => ?_⟩⟩, fun z => ?_⟩
    · rw [if_neg z, if_neg (by omega)] at hE; rw [iZ_n1]; exact hE
    · rw [if_neg z, if_pos (by omega), List.getElem?_eq_none (by omega)] at hE; rw [iZ_n1]; exact hE
    · have hl : x.toNat < (PLs r (r 0).toNat).length := by omega
      have hg := List.getElem?_eq_getElem hl
      rw [if_neg z, if_pos (by omega), hg] at hE
      rw [iZ_nat b1 b2, P1 _ _ hg]
      exact ⟨iZ_in (by omega) (by omega) (by omega), hE⟩
    · rw [if_pos z] at hE; exact hE
  · exact cb_9 (by omega) hp.1 hr.2.1 b1 b2 (hR M Q9.rf)
end OBB
