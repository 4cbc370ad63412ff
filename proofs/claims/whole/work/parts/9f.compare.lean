/-! compare, both programs. -/
theorem rk_up {cs : List (Nat × Cl)} {r : Nat → Int} {x s : Int} {v : Nat} (hV : Vk r) : rkF cs (va_up r 204 x) s v = rkF cs r s v := by
  have m2 := hV.2.1
  have hd : ∀ d : Int, dg (va_up r 204 x) v s d = dg r v s d := fun d => by
    unfold dg
    rw [up_ne (show (0 : Nat) ≠ 204 by omega)]
    exact cnt_congr (fun i hi => by rw [up_ne (by omega)])
  unfold rkF
  rw [up_ne (show (31 : Nat) ≠ 204 by omega), up_ne (show (201 : Nat) ≠ 204 by omega), up_ne (show (187 : Nat) ≠ 204 by omega), hd]
theorem Vk_204 {r : Nat → Int} {x : Int} (hV : Vk r) : Vk (va_up r 204 x) := by
  have h1 := hV.2.2.2.2
  exact hV.up (fun i hi => up_ne (by omega)) (by rw [up_ne (by omega)]; exact h1.1) (by rw [up_ne (by omega)]; exact h1.2.1) (by rw [up_ne (by omega)]; exact h1.2.2.1) (by rw [up_ne (by omega)]; exact h1.2.2.2.1) (by rw [up_ne (by omega)]; exact h1.2.2.2.2.1) (by rw [up_ne (by omega)]; exact h1.2.2.2.2.2)
theorem Lr.up {r : Nat → Int} {x : Int} {t : Nat} {cs : List (Nat × Cl)} (h : Lr r t cs) : Lr (va_up r 204 x) t cs := by
  obtain ⟨cd, vl, T, h1, h2, h3, h4, h5⟩ := h
  refine ⟨cd, vl, T, h1, h2, by rw [up_ne (by omega)]; exact h3, fun i hi => ?_, h5⟩
  rw [up_ne (by omega), up_ne (by omega)]
  exact h4 i hi
section CM
variable {N K A b : Nat} {r : Nat → Int} {cs : List (Nat × Cl)} {x y : Int}
theorem cm_8 {M : gM} {R : Int32 → gM → Prop} (hN : 500 ≤ N) (hV : Vk r) (hm : Vm r) (hR : Rk M (A + 1 + 1) r) (h2 : g_mi M (A + 1 + 1 + 2) 2 = iZ (r 201)) (h5 : g_mi M (A + 1) 5 = iZ (r 203)) (t0 : 0 ≤ r 203) (t1 : r 203 ≤ 6) (hF : -1 ≤ x → x < r 203 → FC M A (iZ x) cs) (x1 : -2147483648 ≤ x) (x2 : x < 2147483648) (y1 : -2147483648 ≤ y) (y2 : y < 2147483648) (hE : ∀ M1, Fw (A + 271) M M1 → R (iZ (cmA cs r x y)) M1) : pX8_compare N K M A (iZ x) (iZ y) R := by
  have d0 := hV.2.2.2.2.1
  have d1 := hV.2.2.2.2.2.1
  have s0 := hV.2.2.2.2.2.2.1
  have s1 := hV.2.2.2.2.2.2.2.1
  unfold cmA at hE
  have f0 : Fw (A + 271) M M := fun _ _ _ => rfl
  unfold pX8_compare
  have c1 : (iZ x < -1) = (x < -1) := by rw [iZ_n1, iZ_lt (by omega) (by omega) (by omega) (by omega)]
  have c2 : (iZ (r 203) ≤ iZ x) = (r 203 ≤ x) := by rw [iZ_le (by omega) (by omega) (by omega) (by omega)]
  obtain ⟨g1, g2⟩ := dg_8 (N := N) (v := y) (by omega) hV hR y1 y2
  rw [h5, c1, c2]
  refine ⟨fun z => ?_, fun z => ⟨fun z2 => ?_, fun z2 v1 hv1 => ?_⟩⟩
  · rw [if_neg (by omega)] at hE; exact hE M f0
  · rw [if_neg (by omega)] at hE; exact hE M f0
  · have F := hF (by omega) (by omega)
    rw [if_pos (by omega)] at hE
    rw [hasV_8 hV hR y1 y2] at hv1
    subst hv1
    rw [iB_0, decide_eq_false_iff_not]
    refine ⟨fun w => ⟨F.1, g1, fun v2 hv2 => ?_⟩, fun w => ?_⟩
    · have w2 := Classical.not_not.mp w
      rw [if_pos w2] at hE
      rw [g2, if_pos w2] at hv2
      subst hv2
      have := rk_ok (cs := cs) (K := K) (R := R) (s := r 32) (v := y.toNat) hN hV hm hR h2 F.2.1 F.2.2.2 s0 s1 (by omega) (Or.inr (by have := F.2.2.1; omega)) (by omega) hE
      rw [show ((y.toNat : Nat) : Int) = y by omega] at this
      rw [hR.2.2.2.1]
      exact this
    · rw [if_neg w] at hE; exact hE M f0
theorem cm_9 {M : gM} {R : Int32 → gM → Prop} (hN : 500 ≤ N) (hK : 500 ≤ K) (hV : Vk r) (hm : Vm r) (hR : Rr M b r) (t0 : 0 ≤ r 203) (t1 : r 203 ≤ 6) (hF : -1 ≤ x → x < r 203 → FL (va_up r 204 x) cs) (x1 : -2147483648 ≤ x) (x2 : x < 2147483648) (y1 : -2147483648 ≤ y) (y2 : y < 2147483648) (hE : ∀ M1, Fa2 b M M1 → Rr M1 b r → R (iZ (cmA cs r x y)) M1) : pX9_compare N K M b (iZ x) (iZ y) R := by
  have d0 := hV.2.2.2.2.1
  have d1 := hV.2.2.2.2.2.1
  have s0 := hV.2.2.2.2.2.2.1
  have s1 := hV.2.2.2.2.2.2.2.1
  unfold cmA at hE
  have f0 : Fa2 b M M := fun _ _ _ _ _ => rfl
  unfold pX9_compare
  have el : fX9_isLaw M b (iZ x) = iB (decide (-1 ≤ x ∧ x ≤ r 203 - 1)) := by
    unfold fX9_isLaw
    rw [hR 203 (by omega), iZ_l1, iZ_sub, show (-iZ 1 : Int32) = iZ (-1) from by rw [iZ_neg], lies_9 x1 x2 (by omega) (by omega) (by omega) (by omega)]
  have ee : EX9_isLaw M b (iZ x) := by
    have : EX9_isLaw M b (iZ x) = (fX9_isLaw M b (iZ x) = 0 ∨ fX9_isLaw M b (iZ x) = 1) := rfl
    rw [this, el]
    exact iB_o
  obtain ⟨w1, w2⟩ := isV_9 hV hR y1 y2
  refine ⟨ee, fun v1 hv1 => ?_⟩
  rw [el] at hv1
  subst hv1
  rw [iB_0, decide_eq_false_iff_not]
  refine ⟨fun z => ?_, fun z => ⟨w1, fun v2 hv2 => ?_⟩⟩
  · rw [if_neg (by omega)] at hE; exact hE M f0 hR
  · have z2 := Classical.not_not.mp z
    have F := hF (by omega) (by omega)
    rw [if_pos (by omega)] at hE
    rw [w2] at hv2
    subst hv2
    rw [iB_0, decide_eq_false_iff_not]
    refine ⟨fun w M1 h1 => ?_, fun w => ?_⟩
    · have w3 := Classical.not_not.mp w
      rw [if_pos w3] at hE
      have R1 : Rr M1 b (va_up r 204 x) := by rw [h1]; exact hR.up
      have e32 : va_up r 204 x 32 = r 32 := up_ne (by omega)
      have m1 : Vm (va_up r 204 x) := by unfold Vm; rw [up_ne (by omega)]; exact hm
      rw [R1 32 (by omega), e32, hR 204 (by omega)]
      have := ro_ok (K := K) (cs := cs) (s := r 32) (v := y.toNat) (M := M1) (R := fun v3 M2 => ∀ M3 : gM, M3 = (g_wi M2 (b + 2) 204 (iZ (r 204))) → R v3 M3) hN hK (Vk_204 hV) m1 R1 F s0 s1 (by omega) (fun M2 f2 M3 h3 => ?_)
      · rw [show ((y.toNat : Nat) : Int) = y by omega] at this
        exact this
      · rw [rk_up hV]
        refine hE M3 (fun c j q1 q2 q3 => ?_) (fun j hj => ?_)
        · rw [h3, mi_wi, if_neg (by omega), f2 c j q2 q3, h1, mi_wi, if_neg (by omega)]
        · by_cases c : j = 204
          · rw [h3, mi_wi, if_pos ⟨rfl, c⟩, c]
          · rw [h3, mi_wi, if_neg (by omega), f2 _ _ (by omega) (by omega), R1 j hj, up_ne c]
    · rw [if_neg w] at hE; exact hE M f0 hR
end CM
