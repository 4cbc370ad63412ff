/-! add and compare, both programs. -/
def adA (cs : List (Nat × Cl)) (r : Nat → Int) (x : Int) : Int × (Nat → Int) := if 0 ≤ x ∧ x ≤ 999 then (if isT r x = true then (-3, r) else if baF cs r x = 1 then (-3, r) else if r 0 < 30 then (r 0 + 1, addR r x) else (-5, r)) else (-1, r)
def cmA (cs : List (Nat × Cl)) (r : Nat → Int) (x y : Int) : Int := if -1 ≤ x ∧ x < r 203 then (if 0 ≤ y ∧ y < 3 * r 31 then rkF cs r (r 32) y.toNat else -1) else -1
section AD8
variable {N K A st : Nat} {r : Nat → Int} {cs : List (Nat × Cl)} {x y : Int}
theorem ad_8 {M : gM} {R : Int32 → gM → Prop} (hN : 500 ≤ N) (hV : Vk r) (hm : Vm r) (hR : Rk M st r) (h2 : g_mi M (st + 2) 2 = iZ (r 201)) (ds : st + 2 < A + 271 ∨ A + 273 < st) (hF : FC M A (g_mi M (A + 1) 6) cs) (x1 : -2147483648 ≤ x) (x2 : x < 2147483648) (hE : ∀ M1, (∀ c, c ≠ A + 271 + 1 → c ≠ A + 271 + 2 → c ≠ st → c ≠ st + 1 → g_mi M1 c = g_mi M c) → Rk M1 st (adA cs r x).2 → R (iZ (adA cs r x).1) M1) : pX8_addTo N K M A st (iZ x) R := by
  have m0 := hV.1
  have m2 := hV.2.1
  have same : ∀ (M1 : gM) (v : Int) (w : Int32), w = iZ v → Fw (A + 271) M M1 → adA cs r x = (v, r) → R w M1 := fun M1 v w hw f e => by
    rw [hw]
    have := hE M1 (fun c q1 q2 _ _ => f c q1 q2) (by
      rw [e]
      unfold Rk
      rw [f st (by omega) (by omega), f (st + 1) (by omega) (by omega), f (st + 2) (by omega) (by omega)]
      exact hR)
    rw [e] at this
    exact this
  have f0 : Fw (A + 271) M M := fun _ _ _ => rfl
  unfold pX8_addTo
  intro v1 hv1
  rw [isKey_8 x1 x2] at hv1
  subst hv1
  rw [iB_0, decide_eq_false_iff_not]
  obtain ⟨hh1, hh2⟩ := has_8 (N := N) (k := x) (by omega) hV hR x1 x2
  refine ⟨fun z => ⟨hh1, fun v2 hv2 => ?_⟩, fun z => same M (-1) _ iZ_n1 f0 (by unfold adA; rw [if_neg z])⟩
  have z2 := Classical.not_not.mp z
  rw [hh2] at hv2
  subst hv2
  rw [iB_0]
  refine ⟨fun w => same M (-3) _ iZ_m3 f0 (by unfold adA; rw [if_pos z2, if_pos (by cases h : isT r x with | true => rfl | false => exact absurd h w)]), fun w => ⟨hF.1, ?_⟩⟩
  have w2 : ¬ isT r x = true := by rw [w]; decide
  refine ba_ok (cs := cs) hN hV hm hR h2 hF.2.1 hF.2.2.2 (by unfold bd9; omega) (Or.inr (by have := hF.2.2.1; omega)) (by omega) (fun M1 f1 => ?_)
  have R1 : Rk M1 st r := by
    unfold Rk
    rw [f1 st (by omega) (by omega), f1 (st + 1) (by omega) (by omega), f1 (st + 2) (by omega) (by omega)]
    exact hR
  have c30 : (g_mi M1 st 3 < 30) = (r 0 < 30) := by rw [R1.1, iZ_l30, iZ_lt (by omega) (by omega) (by omega) (by omega)]
  rcases baF_b (cs := cs) (r := r) (k := x) with b0 | b0
  · rw [b0]
    refine ⟨fun _ => ?_, fun u => absurd rfl u⟩
    rw [c30]
    refine ⟨fun q => ?_, fun q => same M1 (-5) _ iZ_n5 f1 (by unfold adA; rw [if_pos z2, if_neg w2, if_neg (by omega), if_neg q])⟩
    obtain ⟨i1, i2, i3⟩ := ins_8 (N := N) (k := x) (by omega) hV R1 q x1 x2
    refine ⟨i1, fun M2 h2 => ?_⟩
    have ea : adA cs r x = (r 0 + 1, addR r x) := by unfold adA; rw [if_pos z2, if_neg w2, if_neg (by omega), if_pos q]
    rw [← h2] at i2 i3
    have := hE M2 (fun c q1 q2 q3 q4 => by rw [i3 c (by omega), f1 c q1 q2]) (by rw [ea]; exact i2)
    rw [ea] at this
    rw [i2.1]
    have e0 : addR r x 0 = r 0 + 1 := by unfold addR; rw [if_pos rfl]
    rw [e0]
    exact this
  · rw [b0]
    exact ⟨fun u => absurd u (by decide), fun _ => same M1 (-3) _ iZ_m3 f1 (by unfold adA; rw [if_pos z2, if_neg w2, if_pos b0])⟩
end AD8
section AD9
variable {N K b : Nat} {r : Nat → Int} {cs : List (Nat × Cl)} {x y : Int}
def Fa2 (b : Nat) (M M1 : gM) : Prop := ∀ c j, c ≠ b + 2 → c ≠ b + 12 → (c ≠ b ∨ (j ≠ 22 ∧ j ≠ 23 ∧ j ≠ 24 ∧ j ≠ 25)) → g_mi M1 c j = g_mi M c j
theorem ad_loop {M0 : gM} {R : Int32 → gM → Prop} {p m : Nat} (hm : m < 30) (hp : p ≤ m) (h0 : r 0 = m) (hl : lo r x = p) (hE : ∀ M1, (∀ c j, c ≠ b + 2 → g_mi M1 c j = g_mi M0 c j) → Rr M1 b (addR r x) → R (iZ (r 0 + 1)) M1) : ∀ (e i n : Nat) (M : gM), i = p + e → i ≤ m → e + 1 ≤ n → (∀ c j, c ≠ b + 2 → g_mi M c j = g_mi M0 c j) → (∀ j, j < 5812 → g_mi M (b + 2) j = if 1 + i < j ∧ j ≤ 1 + m then iZ (r (j - 1)) else iZ (r j)) → qX9_adds N K R n 0 M b (iZ x) (iZ p) (iZ i) := by
  intro e
  induction e with
  | zero =>
    intro i n M hi him hn f hrow
    obtain ⟨n2, rfl⟩ : ∃ n2, n = n2 + 1 := ⟨n - 1, by omega⟩
    have ei : i = p := by omega
    rw [qX9_adds]
    unfold pX9_adds_55
    have c1 : iZ (i : Int) ≤ iZ (p : Int) := by rw [iZ_le (by omega) (by omega) (by omega) (by omega)]; omega
    rw [iZ_1a, iZ_cl (show 1 + p < 2147483648 by omega)]
    refine ⟨fun _ => ⟨iZ_in (by omega) (by omega) (by omega), fun M1 h1 M2 h2 => ?_⟩, fun z => absurd c1 z⟩
    have e0 : g_mi M1 (b + 2) 0 = iZ (r 0) := by rw [h1, mi_wi, if_neg (by omega), hrow 0 (by omega), if_neg (by omega)]
    rw [e0, iZ_l1, iZ_add] at h2
    have g : ∀ c j, g_mi M2 c j = if c = b + 2 ∧ j = 0 then iZ (r 0 + 1) else if c = b + 2 ∧ j = 1 + p then iZ x else g_mi M c j := fun c j => by rw [h2, mi_wi, h1, mi_wi]
    rw [show g_mi M2 (b + 2) 0 = iZ (r 0 + 1) by rw [g, if_pos ⟨rfl, rfl⟩]]
    refine hE M2 (fun c j q => by rw [g, if_neg (by omega), if_neg (by omega)]; exact f c j q) (fun j hj => ?_)
    unfold addR
    rw [hl, g]
    by_cases c : j = 0
    · rw [if_pos ⟨rfl, c⟩, if_pos c]
    · rw [if_neg (by omega), if_neg c]
      by_cases c2 : j = 1 + p
      · rw [if_pos ⟨rfl, c2⟩, if_pos c2]
      · rw [if_neg (by omega), if_neg c2, hrow j hj]
        by_cases c3 : 1 + p < j ∧ (j : Int) ≤ r 0 + 1
        · rw [if_pos (by omega), if_pos c3]
        · rw [if_neg (by omega), if_neg c3]
  | succ e ih =>
    intro i n M hi him hn f hrow
    obtain ⟨n2, rfl⟩ : ∃ n2, n = n2 + 1 := ⟨n - 1, by omega⟩
    rw [qX9_adds]
    unfold pX9_adds_55
    have c1 : ¬ iZ (i : Int) ≤ iZ (p : Int) := by rw [iZ_le (by omega) (by omega) (by omega) (by omega)]; omega
    have ek : EX9_keyAt M b (iZ (i : Int) - 1) ∧ fX9_keyAt M b (iZ (i : Int) - 1) = iZ (r i) := by
      unfold EX9_keyAt fX9_keyAt
      rw [iZ_m1 (by omega), iZ_1a, iZ_cl (show 1 + (i - 1) < 2147483648 by omega), show 1 + (i - 1) = i by omega, hrow i (by omega), if_neg (by omega)]
      exact ⟨iZ_in (by omega) (by omega) (by omega), rfl⟩
    refine ⟨fun z => absurd z c1, fun _ => ⟨ek.1, fun v1 hv1 => ?_⟩⟩
    rw [ek.2] at hv1
    subst hv1
    rw [iZ_1a, iZ_cl (show 1 + i < 2147483648 by omega), iZ_p1 (by omega)]
    refine ⟨iZ_in (by omega) (by omega) (by omega), fun M3 h3 => ?_⟩
    refine ih (i - 1) n2 M3 (by omega) (by omega) (by omega) (fun c j q => by rw [h3, mi_wi, if_neg (by omega)]; exact f c j q) (fun j hj => ?_)
    by_cases c : j = 1 + i
    · rw [h3, mi_wi, if_pos ⟨rfl, c⟩, if_pos (by omega), c, show 1 + i - 1 = i by omega]
    · rw [h3, mi_wi, if_neg (by omega), hrow j hj]
      by_cases c3 : 1 + i < j ∧ j ≤ 1 + m
      · rw [if_pos c3, if_pos (by omega)]
      · rw [if_neg c3, if_neg (by omega)]
theorem ad_9 {M : gM} {R : Int32 → gM → Prop} (hN : 500 ≤ N) (hK : 500 ≤ K) (hV : Vk r) (hm : Vm r) (hR : Rr M b r) (hF : FL r cs) (x1 : -2147483648 ≤ x) (x2 : x < 2147483648) (hE : ∀ M1, Fa2 b M M1 → Rr M1 b (adA cs r x).2 → R (iZ (adA cs r x).1) M1) : pX9_adds N K M b (iZ x) R := by
  have m0 := hV.1
  have m2 := hV.2.1
  have same : ∀ (M1 : gM) (v : Int) (w : Int32), w = iZ v → Fa9 b M M1 → adA cs r x = (v, r) → R w M1 := fun M1 v w hw f e => by
    rw [hw]
    have := hE M1 (fun c j q1 q2 q3 => f c j q2 q3) (by rw [e]; exact fun j hj => by rw [f _ _ (by omega) (by omega)]; exact hR j hj)
    rw [e] at this
    exact this
  have f0 : Fa9 b M M := fun _ _ _ _ => rfl
  unfold pX9_adds pX9_adds_0
  refine ⟨EisKey_9 x1 x2, fun v1 hv1 => ?_⟩
  rw [isKey_9 x1 x2] at hv1
  subst hv1
  rw [iB_0, decide_eq_false_iff_not]
  obtain ⟨hh1, hh2⟩ := has_9 (N := N) (k := x) (by omega) hV hR x1 x2
  refine ⟨fun z => ⟨hh1, fun v2 hv2 => ?_⟩, fun z => same M (-1) _ iZ_n1 f0 (by unfold adA; rw [if_neg z])⟩
  have z2 := Classical.not_not.mp z
  rw [hh2] at hv2
  subst hv2
  rw [iB_0]
  refine ⟨fun w => same M (-3) _ iZ_m3 f0 (by unfold adA; rw [if_pos z2, if_pos (by cases h : isT r x with | true => rfl | false => exact absurd h w)]), fun w => ?_⟩
  have w2 : ¬ isT r x = true := by rw [w]; decide
  refine bo_ok (cs := cs) hN hK hV hm hR hF (by unfold bd9; omega) (fun M1 f1 => ?_)
  have R1 : Rr M1 b r := fun j hj => by rw [f1 _ _ (by omega) (by omega)]; exact hR j hj
  have c30 : (g_mi M1 (b + 2) 0 = 30) = (r 0 = 30) := by rw [R1 0 (by omega), iZ_l30, iZ_eq (by omega) (by omega) (by omega) (by omega)]
  rcases baF_b (cs := cs) (r := r) (k := x) with b0 | b0
  · rw [b0]
    refine ⟨fun _ => ?_, fun u => absurd rfl u⟩
    rw [c30]
    refine ⟨fun q => ?_, fun q => same M1 (-5) _ iZ_n5 f1 (by unfold adA; rw [if_pos z2, if_neg w2, if_neg (by omega), if_neg (by omega)])⟩
    obtain ⟨l1, l2⟩ := lo_9 (N := N) (k := x) (by omega) hV R1 x1 x2
    refine ⟨l1, fun v4 hv4 => ?_⟩
    rw [l2] at hv4
    subst hv4
    have ll := lo_le r x m0
    have ea : adA cs r x = (r 0 + 1, addR r x) := by unfold adA; rw [if_pos z2, if_neg w2, if_neg (by omega), if_pos (by omega)]
    rw [R1 0 (by omega), show iZ (r 0) = iZ (((r 0).toNat : Nat) : Int) by congr 1; omega]
    refine ad_loop (M0 := M1) (p := lo r x) (m := (r 0).toNat) (by omega) (by omega) (by omega) rfl (fun M2 f2 R2 => ?_) ((r 0).toNat - lo r x) (r 0).toNat N M1 (by omega) (by omega) (by omega) (fun _ _ _ => rfl) (fun j hj => by rw [if_neg (by omega)]; exact R1 j hj)
    have := hE M2 (fun c j q1 q2 q3 => (f2 c j q1).trans (f1 c j q2 q3)) (by rw [ea]; exact R2)
    rw [ea] at this
    exact this
  · rw [b0]
    exact ⟨fun u => absurd u (by decide), fun _ => same M1 (-3) _ iZ_m3 f1 (by unfold adA; rw [if_pos z2, if_neg w2, if_pos b0])⟩
end AD9
