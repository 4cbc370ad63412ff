/-! key and vertex, both programs. -/
def keA (cs : List (Nat × Cl)) (r : Nat → Int) (x y : Int) : Int := if 0 ≤ x ∧ x ≤ 999 then (if y = 0 then (if isT r x = true then 1 else 0) else if y = 1 then baF cs r x else if 2 ≤ y ∧ y ≤ 4 then vx x (y - 2) (r 32) (r 31) else -1) else -1
def veA (cs : List (Nat × Cl)) (r : Nat → Int) (x y : Int) : Int := if 0 ≤ x ∧ x < 3 * r 31 then (if y = 0 then (dg r x (r 32) (r 31) : Int) else if y = 1 then rkF cs r (r 32) x.toNat else -1) else -1
section KV
variable {N K A b : Nat} {r : Nat → Int} {cs : List (Nat × Cl)} {x y : Int}
theorem ke_8 {M : gM} {R : Int32 → gM → Prop} (hN : 500 ≤ N) (hV : Vk r) (hm : Vm r) (hR : Rk M (A + 1 + 1) r) (h2 : g_mi M (A + 1 + 1 + 2) 2 = iZ (r 201)) (hF : FC M A (g_mi M (A + 1) 6) cs) (x1 : -2147483648 ≤ x) (x2 : x < 2147483648) (y1 : -2147483648 ≤ y) (y2 : y < 2147483648) (hE : ∀ M1, Fw (A + 271) M M1 → R (iZ (keA cs r x y)) M1) : pX8_key N K M A (iZ x) (iZ y) R := by
  have d0 := hV.2.2.2.2.1
  have d1 := hV.2.2.2.2.2.1
  have s0 := hV.2.2.2.2.2.2.1
  have s1 := hV.2.2.2.2.2.2.2.1
  unfold keA at hE
  have f0 : Fw (A + 271) M M := fun _ _ _ => rfl
  unfold pX8_key
  intro v1 hv1
  rw [isKey_8 x1 x2] at hv1
  subst hv1
  rw [iB_0, decide_eq_false_iff_not]
  refine ⟨fun z => ?_, fun z => ?_⟩
  · have z2 := Classical.not_not.mp z
    rw [if_pos z2] at hE
    have e0 : (iZ y = 0) = (y = 0) := by rw [iZ_l0, iZ_eq (by omega) (by omega) (by omega) (by omega)]
    have e1 : (iZ y = 1) = (y = 1) := by rw [iZ_l1, iZ_eq (by omega) (by omega) (by omega) (by omega)]
    have e2 : (iZ y = 2) = (y = 2) := by rw [iZ_l2, iZ_eq (by omega) (by omega) (by omega) (by omega)]
    have e3 : (iZ y = 3) = (y = 3) := by rw [iZ_l3, iZ_eq (by omega) (by omega) (by omega) (by omega)]
    have e4 : (iZ y = 4) = (y = 4) := by rw [iZ_l4, iZ_eq (by omega) (by omega) (by omega) (by omega)]
    obtain ⟨hh1, hh2⟩ := has_8 (N := N) (k := x) (by omega) hV hR x1 x2
    have sub : ∀ w : Int, iZ w - 2 = iZ (w - 2) := fun w => by rw [iZ_l2, iZ_sub]
    have vtx : 2 ≤ y → y ≤ 4 → (EX8_vertexOf M (iZ x) (iZ y - 2) (g_mi M (A + 1 + 1) 5) (g_mi M (A + 1 + 1) 4)) ∧ ∀ v4 : Int32, v4 = (fX8_vertexOf (iZ x) (iZ y - 2) (g_mi M (A + 1 + 1) 5) (g_mi M (A + 1 + 1) 4)) → R v4 M := fun q1 q2 => by
      rw [if_neg (by omega), if_neg (by omega), if_pos ⟨q1, q2⟩] at hE
      rw [sub, hR.2.2.2.1, hR.2.2.1]
      refine ⟨vx_E8 d0 d1, fun v4 h4 => ?_⟩
      rw [vx_8 z2.1 (by omega) (by omega) (by omega) s0 s1 d0 d1] at h4
      rw [h4]; exact hE M f0
    rw [e0, e1, e2, e3, e4]
    refine ⟨fun q => ⟨hh1, fun v2 hv2 => ?_⟩, fun q => ⟨fun q1 => ⟨hF.1, ?_⟩, fun q1 => ⟨fun q2 => vtx (by omega) (by omega), fun q2 => ⟨fun q3 => vtx (by omega) (by omega), fun q3 => ⟨fun q4 => vtx (by omega) (by omega), fun q4 => ?_⟩⟩⟩⟩⟩
    · rw [hh2] at hv2
      subst hv2
      rw [iB_0]
      rw [if_pos q] at hE
      refine ⟨fun w => ?_, fun w => ?_⟩
      · rw [if_neg (by rw [w]; decide)] at hE; exact hE M f0
      · rw [if_pos (by cases h : isT r x with | true => rfl | false => exact absurd h w)] at hE; exact hE M f0
    · rw [if_neg q, if_pos q1] at hE
      refine ba_ok (cs := cs) hN hV hm hR h2 hF.2.1 hF.2.2.2 (by unfold bd9; omega) (Or.inr (by have := hF.2.2.1; omega)) (by omega) (fun M1 f1 => ?_)
      have k := hE M1 f1
      rcases baF_b (cs := cs) (r := r) (k := x) with w | w
      · rw [w] at k ⊢
        exact ⟨fun _ => k, fun u => absurd rfl u⟩
      · rw [w] at k ⊢
        exact ⟨fun u => absurd u (by decide), fun _ => k⟩
    · rw [if_neg q, if_neg q1, if_neg (by omega)] at hE; exact hE M f0
  · rw [if_neg z] at hE; exact hE M f0
theorem ke_9 {M : gM} {R : Int32 → gM → Prop} (hN : 500 ≤ N) (hK : 500 ≤ K) (hV : Vk r) (hm : Vm r) (hR : Rr M b r) (hF : FL r cs) (x1 : -2147483648 ≤ x) (x2 : x < 2147483648) (y1 : -2147483648 ≤ y) (y2 : y < 2147483648) (hE : ∀ M1, Fa9 b M M1 → R (iZ (keA cs r x y)) M1) : pX9_key N K M b (iZ x) (iZ y) R := by
  have d0 := hV.2.2.2.2.1
  have d1 := hV.2.2.2.2.2.1
  have s0 := hV.2.2.2.2.2.2.1
  have s1 := hV.2.2.2.2.2.2.2.1
  unfold keA at hE
  have f0 : Fa9 b M M := fun _ _ _ _ => rfl
  unfold pX9_key
  refine ⟨EisKey_9 x1 x2, fun v1 hv1 => ?_⟩
  rw [isKey_9 x1 x2] at hv1
  subst hv1
  rw [iB_0, decide_eq_false_iff_not]
  refine ⟨fun z => ?_, fun z => ?_⟩
  · have z2 := Classical.not_not.mp z
    rw [if_pos z2] at hE
    have e0 : (iZ y = 0) = (y = 0) := by rw [iZ_l0, iZ_eq (by omega) (by omega) (by omega) (by omega)]
    have e1 : (iZ y = 1) = (y = 1) := by rw [iZ_l1, iZ_eq (by omega) (by omega) (by omega) (by omega)]
    have e2 : (iZ y = 2) = (y = 2) := by rw [iZ_l2, iZ_eq (by omega) (by omega) (by omega) (by omega)]
    have e3 : (iZ y = 3) = (y = 3) := by rw [iZ_l3, iZ_eq (by omega) (by omega) (by omega) (by omega)]
    have e4 : (iZ y = 4) = (y = 4) := by rw [iZ_l4, iZ_eq (by omega) (by omega) (by omega) (by omega)]
    obtain ⟨hh1, hh2⟩ := has_9 (N := N) (k := x) (by omega) hV hR x1 x2
    have sub : ∀ w : Int, iZ w - 2 = iZ (w - 2) := fun w => by rw [iZ_l2, iZ_sub]
    have vtx : 2 ≤ y → y ≤ 4 → (EX9_vertexOf M (iZ x) (iZ y - 2) (g_mi M (b + 2) 32) (g_mi M (b + 2) 31)) ∧ ∀ v4 : Int32, v4 = (fX9_vertexOf (iZ x) (iZ y - 2) (g_mi M (b + 2) 32) (g_mi M (b + 2) 31)) → R v4 M := fun q1 q2 => by
      rw [if_neg (by omega), if_neg (by omega), if_pos ⟨q1, q2⟩] at hE
      rw [sub, hR 32 (by omega), hR 31 (by omega)]
      refine ⟨vx_E9 d0 d1, fun v4 h4 => ?_⟩
      rw [vx_9 z2.1 (by omega) (by omega) (by omega) s0 s1 d0 d1] at h4
      rw [h4]; exact hE M f0
    rw [e0, e1, e2, e3, e4]
    refine ⟨fun q => ⟨hh1, fun v2 hv2 => ?_⟩, fun q => ⟨fun q1 => ?_, fun q1 => ⟨fun q2 => vtx (by omega) (by omega), fun q2 => ⟨fun q3 => vtx (by omega) (by omega), fun q3 => ⟨fun q4 => vtx (by omega) (by omega), fun q4 => ?_⟩⟩⟩⟩⟩
    · rw [hh2] at hv2
      subst hv2
      rw [iB_0]
      rw [if_pos q] at hE
      refine ⟨fun w => ?_, fun w => ?_⟩
      · rw [if_neg (by rw [w]; decide)] at hE; exact hE M f0
      · rw [if_pos (by cases h : isT r x with | true => rfl | false => exact absurd h w)] at hE; exact hE M f0
    · rw [if_neg q, if_pos q1] at hE
      refine bo_ok (cs := cs) hN hK hV hm hR hF (by unfold bd9; omega) (fun M1 f1 => ?_)
      have k := hE M1 f1
      rcases baF_b (cs := cs) (r := r) (k := x) with w | w
      · rw [w] at k ⊢
        exact ⟨fun _ => k, fun u => absurd rfl u⟩
      · rw [w] at k ⊢
        exact ⟨fun u => absurd u (by decide), fun _ => k⟩
    · rw [if_neg q, if_neg q1, if_neg (by omega)] at hE; exact hE M f0
  · rw [if_neg z] at hE; exact hE M f0
theorem ve_8 {M : gM} {R : Int32 → gM → Prop} (hN : 500 ≤ N) (hV : Vk r) (hm : Vm r) (hR : Rk M (A + 1 + 1) r) (h2 : g_mi M (A + 1 + 1 + 2) 2 = iZ (r 201)) (hF : FC M A (g_mi M (A + 1) 6) cs) (x1 : -2147483648 ≤ x) (x2 : x < 2147483648) (y1 : -2147483648 ≤ y) (y2 : y < 2147483648) (hE : ∀ M1, Fw (A + 271) M M1 → R (iZ (veA cs r x y)) M1) : pX8_vertex N K M A (iZ x) (iZ y) R := by
  have d0 := hV.2.2.2.2.1
  have d1 := hV.2.2.2.2.2.1
  have s0 := hV.2.2.2.2.2.2.1
  have s1 := hV.2.2.2.2.2.2.2.1
  unfold veA at hE
  have f0 : Fw (A + 271) M M := fun _ _ _ => rfl
  unfold pX8_vertex
  intro v1 hv1
  rw [hasV_8 hV hR x1 x2] at hv1
  subst hv1
  rw [iB_0, decide_eq_false_iff_not]
  have e0 : (iZ y = 0) = (y = 0) := by rw [iZ_l0, iZ_eq (by omega) (by omega) (by omega) (by omega)]
  have c3 : (iZ y < 0) = (y < 0) := by rw [iZ_l0, iZ_lt (by omega) (by omega) (by omega) (by omega)]
  have c4 : (iZ y ≤ 1) = (y ≤ 1) := by rw [iZ_l1, iZ_le (by omega) (by omega) (by omega) (by omega)]
  obtain ⟨g1, g2⟩ := dg_8 (N := N) (v := x) (by omega) hV hR x1 x2
  rw [e0, c3, c4]
  refine ⟨fun z => ?_, fun z => ⟨fun q => ?_, fun q => ⟨fun q2 => ⟨g1, fun v2 hv2 => ?_⟩, fun q2 => ?_⟩⟩⟩
  · rw [if_neg z] at hE; exact hE M f0
  · rw [if_pos (Classical.not_not.mp z), if_neg (by omega), if_neg (by omega)] at hE; exact hE M f0
  · have z2 := Classical.not_not.mp z
    rw [if_pos z2] at hE
    rw [g2, if_pos z2] at hv2
    subst hv2
    refine ⟨fun w => ⟨hF.1, ?_⟩, fun w => ?_⟩
    · rw [if_neg w, if_pos (by omega)] at hE
      have := rk_ok (cs := cs) (K := K) (R := R) (s := r 32) (v := x.toNat) hN hV hm hR h2 hF.2.1 hF.2.2.2 s0 s1 (by omega) (Or.inr (by have := hF.2.2.1; omega)) (by omega) hE
      rw [show ((x.toNat : Nat) : Int) = x by omega] at this
      rw [hR.2.2.2.1]
      exact this
    · rw [if_pos w] at hE; exact hE M f0
  · rw [if_pos (Classical.not_not.mp z), if_neg (by omega), if_neg (by omega)] at hE; exact hE M f0
theorem ve_9 {M : gM} {R : Int32 → gM → Prop} (hN : 500 ≤ N) (hK : 500 ≤ K) (hV : Vk r) (hm : Vm r) (hR : Rr M b r) (hF : FL r cs) (x1 : -2147483648 ≤ x) (x2 : x < 2147483648) (y1 : -2147483648 ≤ y) (y2 : y < 2147483648) (hE : ∀ M1, Fa9 b M M1 → R (iZ (veA cs r x y)) M1) : pX9_vertex N K M b (iZ x) (iZ y) R := by
  have d0 := hV.2.2.2.2.1
  have d1 := hV.2.2.2.2.2.1
  have s0 := hV.2.2.2.2.2.2.1
  have s1 := hV.2.2.2.2.2.2.2.1
  unfold veA at hE
  have f0 : Fa9 b M M := fun _ _ _ _ => rfl
  unfold pX9_vertex
  obtain ⟨w1, w2⟩ := isV_9 hV hR x1 x2
  refine ⟨w1, fun v1 hv1 => ?_⟩
  rw [w2] at hv1
  subst hv1
  have e0 : (iZ y = 0) = (y = 0) := by rw [iZ_l0, iZ_eq (by omega) (by omega) (by omega) (by omega)]
  obtain ⟨g1, g2⟩ := dg_9 (N := N) (v := x) (s := r 32) (by omega) hV hR x1 x2 s0 s1
  rw [iB_0, decide_eq_false_iff_not, hR 32 (by omega), e0, show fX9_lies (iZ y) 0 1 = iB (decide (0 ≤ y ∧ y ≤ 1)) from lies_9 (l := 0) (h := 1) y1 y2 (by omega) (by omega) (by omega) (by omega)]
  refine ⟨fun z => ?_, fun z v2 hv2 => ?_⟩
  · rw [if_neg z] at hE; exact hE M f0
  · subst hv2
    rw [iB_0, decide_eq_false_iff_not]
    have z2 := Classical.not_not.mp z
    rw [if_pos z2] at hE
    refine ⟨fun q => ⟨fun w => ?_, fun w => ⟨g1, fun v4 hv4 => ?_⟩⟩, fun q => ?_⟩
    · have q2 := Classical.not_not.mp q
      rw [if_neg w, if_pos (by omega)] at hE
      have := ro_ok (cs := cs) (R := R) (s := r 32) (v := x.toNat) hN hK hV hm hR hF s0 s1 (by omega) hE
      rw [show ((x.toNat : Nat) : Int) = x by omega] at this
      exact this
    · rw [if_pos w] at hE
      rw [g2] at hv4
      rw [hv4]; exact hE M f0
    · rw [if_neg (by omega), if_neg (by omega)] at hE; exact hE M f0
end KV
