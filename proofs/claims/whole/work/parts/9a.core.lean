/-! core, good, leastSide. -/
def coN (r : Nat → Int) (s d : Int) : Nat := (r 0).toNat - (pel (vtR r s d) (r 0).toNat (3 * d).toNat (fun _ => 0) (r 0).toNat (fun _ => true)).length
theorem co_is {r : Nat → Int} {s d : Int} {c : Nat} (hV : Vk r) (d0 : 2 ≤ d) (d1 : d ≤ 20) (h : IsCore (vtR r s d) (r 0).toNat (3 * d).toNat c) : c = coN r s d := h.one (pel_core (vtR_V hV d0 d1)).2
theorem co_le {r : Nat → Int} {s d : Int} (hV : Vk r) : coN r s d ≤ 30 := by
  have := hV.2.1
  unfold coN
  omega
theorem dg_cg {vt vt2 : Nat → Nat → Nat} {m : Nat} (h : ∀ k i, k < m → vt k i = vt2 k i) (S : Nat → Bool) (v : Nat) : dgS vt m S v = dgS vt2 m S v := cnt_congr (fun j hj => by unfold pS ic; rw [h j 0 hj, h j 1 hj, h j 2 hj])
theorem IsCore.cg {vt vt2 : Nat → Nat → Nat} {m V c : Nat} (h : ∀ k i, k < m → vt k i = vt2 k i) (hc : IsCore vt m V c) : IsCore vt2 m V c := by
  have e : dgS vt m = dgS vt2 m := by funext S v; exact dg_cg h S v
  unfold IsCore Run acS Cld at *
  rw [e] at hc
  exact hc
/-- the x-th of all seeds that peel whole; how many they are -/
def gdF (f : Nat → Bool) (x : Int) : Nat → Nat → Nat → Int
  | 0, _, c => if x = -1 then c else -1
  | n + 1, u, c => if f u = true then (if (c : Int) = x then u else gdF f x n (u + 1) (c + 1)) else gdF f x n (u + 1) c
def gdA (r : Nat → Int) (x : Int) : Int := if -1 ≤ x then gdF (fun u => decide (coN r u (r 31) = 0)) x 256 0 0 else -1
def coA (r : Nat → Int) (x : Int) : Int := if 0 ≤ x ∧ x ≤ 255 then (coN r x (r 31) : Int) else -1
section C8
variable {N K A : Nat} {r : Nat → Int} {x : Int}
theorem Rk.fk {M M1 : gM} {a st : Nat} (h : Rk M st r) (f : Fk a M M1) (ds : st + 2 < a ∨ a + 7 < st) : Rk M1 st r := by
  unfold Rk
  rw [f st (by omega) (by omega) (by omega) (by omega), f (st + 1) (by omega) (by omega) (by omega) (by omega), f (st + 2) (by omega) (by omega) (by omega) (by omega)]
  exact h
theorem co_8 {M : gM} {R : Int32 → gM → Prop} (hN : 500 ≤ N) (hV : Vk r) (hR : Rk M (A + 1 + 1) r) (x1 : -2147483648 ≤ x) (x2 : x < 2147483648) (hE : ∀ M1, Fk (A + 274) M M1 → R (iZ (coA r x)) M1) : pX8_core N K M A (iZ x) R := by
  have d0 := hV.2.2.2.2.1
  have d1 := hV.2.2.2.2.2.1
  unfold coA at hE
  unfold pX8_core
  intro v1 hv1
  rw [isSeed_8 x1 x2] at hv1
  subst hv1
  rw [iB_0, decide_eq_false_iff_not]
  refine ⟨fun z => ?_, fun z => ?_⟩
  · have := hE M (fun _ _ _ _ _ => rfl)
    rw [if_neg z] at this; exact this
  · have z2 := Classical.not_not.mp z
    rw [if_pos z2] at hE
    rw [hR.2.2.1]
    exact cs_core hN hV hR z2.1 z2.2 d0 d1 (by omega) (fun M1 c f1 hc => by
      have := hE M1 f1
      rw [← co_is hV d0 d1 hc] at this; exact this)
theorem gd_8l {M0 : gM} {R : Int32 → gM → Prop} (hN : 500 ≤ N) (hV : Vk r) (hR : Rk M0 (A + 1 + 1) r) (x1 : -1 ≤ x) (x2 : x < 2147483648) : ∀ (e u n c : Nat) (M : gM), u + e = 256 → e + 1 ≤ n → c ≤ u → Fk (A + 274) M0 M → (∀ M1, Fk (A + 274) M0 M1 → R (iZ (gdF (fun u => decide (coN r u (r 31) = 0)) x e u c)) M1) → qX8_good N K R n 0 M A (iZ x) (iZ c) (iZ u) := by
  have d0 := hV.2.2.2.2.1
  have d1 := hV.2.2.2.2.2.1
  intro e
  induction e with
  | zero =>
    intro u n c M hu hn hc f hE
    obtain ⟨n2, rfl⟩ : ∃ n2, n = n2 + 1 := ⟨n - 1, by omega⟩
    rw [qX8_good]
    unfold pX8_good_11
    have c1 : (256 : Int32) ≤ iZ (u : Int) := by rw [show (256 : Int32) = iZ 256 from rfl, iZ_le (by omega) (by omega) (by omega) (by omega)]; omega
    have e1 : (iZ x = -1) = (x = -1) := by rw [iZ_n1, iZ_eq (by omega) (by omega) (by omega) (by omega)]
    rw [e1]
    have k := hE M f
    rw [gdF] at k
    refine ⟨fun _ => ⟨fun z => ?_, fun z => ?_⟩, fun z => absurd c1 z⟩
    · rw [if_neg z] at k; exact k
    · rw [if_pos z] at k; exact k
  | succ e ih =>
    intro u n c M hu hn hc f hE
    obtain ⟨n2, rfl⟩ : ∃ n2, n = n2 + 1 := ⟨n - 1, by omega⟩
    rw [qX8_good]
    unfold pX8_good_11
    have c1 : ¬ (256 : Int32) ≤ iZ (u : Int) := by rw [show (256 : Int32) = iZ 256 from rfl, iZ_le (by omega) (by omega) (by omega) (by omega)]; omega
    have ec : (iZ (c : Int) = iZ x) = ((c : Int) = x) := by rw [iZ_eq (by omega) (by omega) (by omega) (by omega)]
    have R2 := hR.fk f (by omega)
    rw [R2.2.2.1, ec, iZ_s1, iZ_s1]
    refine ⟨fun z => absurd z c1, fun _ => cs_none hN hV R2 (by omega) (by omega) d0 d1 (by omega) (fun M1 v f1 hv => ?_)⟩
    have hv2 := hv _ (pel_core (rk := fun _ => 0) (vtR_V (s := (u : Int)) hV d0 d1)).2
    have e3 : (r 0).toNat - (pel (vtR r (u : Int) (r 31)) (r 0).toNat (3 * r 31).toNat (fun _ => 0) (r 0).toNat fun _ => true).length = coN r u (r 31) := rfl
    rw [e3] at hv2
    subst hv2
    rw [iB_0, decide_eq_false_iff_not]
    rw [gdF] at hE
    refine ⟨fun z => ⟨fun y => ?_, fun y => ?_⟩, fun z => ?_⟩
    · rw [if_pos (decide_eq_true (Classical.not_not.mp z)), if_neg y] at hE
      exact ih (u + 1) n2 (c + 1) M1 (by omega) (by omega) (by omega) (f.tr f1) hE
    · rw [if_pos (decide_eq_true (Classical.not_not.mp z)), if_pos y] at hE
      exact hE M1 (f.tr f1)
    · rw [if_neg (by rw [decide_eq_false z]; decide)] at hE
      exact ih (u + 1) n2 c M1 (by omega) (by omega) (by omega) (f.tr f1) hE
theorem gd_8 {M : gM} {R : Int32 → gM → Prop} (hN : 500 ≤ N) (hV : Vk r) (hR : Rk M (A + 1 + 1) r) (x1 : -2147483648 ≤ x) (x2 : x < 2147483648) (hE : ∀ M1, Fk (A + 274) M M1 → R (iZ (gdA r x)) M1) : pX8_good N K M A (iZ x) R := by
  unfold gdA at hE
  unfold pX8_good pX8_good_0
  have e1 : (-1 ≤ iZ x) = (-1 ≤ x) := by rw [iZ_n1, iZ_le (by omega) (by omega) (by omega) (by omega)]
  rw [e1]
  refine ⟨fun z => ?_, fun z => ?_⟩
  · rw [if_pos z] at hE
    exact gd_8l hN hV hR z x2 256 0 N 0 M (by omega) (by omega) (by omega) (fun _ _ _ _ _ => rfl) hE
  · rw [if_neg z] at hE
    exact hE M (fun _ _ _ _ _ => rfl)
end C8
section C9
variable {N K b : Nat} {r : Nat → Int} {x : Int}
theorem Fqr.tr {M M1 M2 : gM} (h : Fqr b M M1) (h2 : Fqr b M1 M2) : Fqr b M M2 := fun c j q1 q2 q3 q4 q5 q6 q7 => (h2 c j q1 q2 q3 q4 q5 q6 q7).trans (h c j q1 q2 q3 q4 q5 q6 q7)
theorem Rr.fqr {M M1 : gM} (h : Rr M b r) (f : Fqr b M M1) : Rr M1 b r := fun j hj => by rw [f _ _ (by omega) (by omega) (by omega) (by omega) (by omega) (by omega) (by omega)]; exact h j hj
theorem co_9 {M : gM} {R : Int32 → gM → Prop} (hN : 500 ≤ N) (hV : Vk r) (hR : Rr M b r) (x1 : -2147483648 ≤ x) (x2 : x < 2147483648) (hE : ∀ M1, Fqr b M M1 → R (iZ (coA r x)) M1) : pX9_core N K M b (iZ x) R := by
  have d0 := hV.2.2.2.2.1
  have d1 := hV.2.2.2.2.2.1
  unfold coA at hE
  unfold pX9_core
  refine ⟨EisSeed_9 x1 x2, fun v1 hv1 => ?_⟩
  rw [isSeed_9 x1 x2] at hv1
  subst hv1
  rw [iB_0, decide_eq_false_iff_not]
  refine ⟨fun z => ?_, fun z => ?_⟩
  · have := hE M (fun _ _ _ _ _ _ _ _ _ => rfl)
    rw [if_neg z] at this; exact this
  · have z2 := Classical.not_not.mp z
    rw [if_pos z2] at hE
    exact mc_ok hN hV z2.1 z2.2 hR (fun M1 c f1 hc => by
      have := hE M1 f1
      rw [← co_is hV d0 d1 hc] at this; exact this)
theorem gd_9l {M0 : gM} {R : Int32 → gM → Prop} (hN : 500 ≤ N) (hV : Vk r) (hR : Rr M0 b r) (x1 : -1 ≤ x) (x2 : x < 2147483648) : ∀ (e u n c : Nat) (M : gM), u + e = 256 → e + 1 ≤ n → c ≤ u → Fqr b M0 M → (∀ M1, Fqr b M0 M1 → R (iZ (gdF (fun u => decide (coN r u (r 31) = 0)) x e u c)) M1) → qX9_good N K R n 0 M b (iZ x) (iZ c) (iZ u) := by
  have d0 := hV.2.2.2.2.1
  have d1 := hV.2.2.2.2.2.1
  intro e
  induction e with
  | zero =>
    intro u n c M hu hn hc f hE
    obtain ⟨n2, rfl⟩ : ∃ n2, n = n2 + 1 := ⟨n - 1, by omega⟩
    rw [qX9_good]
    unfold pX9_good_11
    have c1 : (256 : Int32) ≤ iZ (u : Int) := by rw [show (256 : Int32) = iZ 256 from rfl, iZ_le (by omega) (by omega) (by omega) (by omega)]; omega
    have e1 : (iZ x = -1) = (x = -1) := by rw [iZ_n1, iZ_eq (by omega) (by omega) (by omega) (by omega)]
    rw [e1]
    have k := hE M f
    rw [gdF] at k
    refine ⟨fun _ => ⟨fun z => ?_, fun z => ?_⟩, fun z => absurd c1 z⟩
    · rw [if_neg z] at k; exact k
    · rw [if_pos z] at k; exact k
  | succ e ih =>
    intro u n c M hu hn hc f hE
    obtain ⟨n2, rfl⟩ : ∃ n2, n = n2 + 1 := ⟨n - 1, by omega⟩
    rw [qX9_good]
    unfold pX9_good_11
    have c1 : ¬ (256 : Int32) ≤ iZ (u : Int) := by rw [show (256 : Int32) = iZ 256 from rfl, iZ_le (by omega) (by omega) (by omega) (by omega)]; omega
    have ec : (iZ (c : Int) = iZ x) = ((c : Int) = x) := by rw [iZ_eq (by omega) (by omega) (by omega) (by omega)]
    have R2 := hR.fqr f
    rw [ec, iZ_s1, iZ_s1]
    refine ⟨fun z => absurd z c1, fun _ => mc_ok hN hV (by omega) (by omega) R2 (fun M1 co f1 hco => ?_)⟩
    have ce := co_is hV d0 d1 hco
    subst ce
    have cl := co_le (s := (u : Int)) (d := r 31) hV
    have e0 : (iZ ((coN r u (r 31) : Nat) : Int) ≤ 0) = (coN r u (r 31) = 0) := by rw [iZ_l0, iZ_le (by omega) (by omega) (by omega) (by omega)]; exact propext ⟨fun _ => by omega, fun _ => by omega⟩
    rw [e0]
    rw [gdF] at hE
    refine ⟨fun z => ⟨fun y => ?_, fun y => ?_⟩, fun z => ?_⟩
    · rw [if_pos (decide_eq_true z), if_neg y] at hE
      exact ih (u + 1) n2 (c + 1) M1 (by omega) (by omega) (by omega) (f.tr f1) hE
    · rw [if_pos (decide_eq_true z), if_pos y] at hE
      exact hE M1 (f.tr f1)
    · rw [if_neg (by rw [decide_eq_false z]; decide)] at hE
      exact ih (u + 1) n2 c M1 (by omega) (by omega) (by omega) (f.tr f1) hE
theorem gd_9 {M : gM} {R : Int32 → gM → Prop} (hN : 500 ≤ N) (hV : Vk r) (hR : Rr M b r) (x1 : -2147483648 ≤ x) (x2 : x < 2147483648) (hE : ∀ M1, Fqr b M M1 → R (iZ (gdA r x)) M1) : pX9_good N K M b (iZ x) R := by
  unfold gdA at hE
  unfold pX9_good pX9_good_0
  have e1 : (-1 ≤ iZ x) = (-1 ≤ x) := by rw [iZ_n1, iZ_le (by omega) (by omega) (by omega) (by omega)]
  rw [e1]
  refine ⟨fun z => ?_, fun z => ?_⟩
  · rw [if_pos z] at hE
    exact gd_9l hN hV hR z x2 256 0 N 0 M (by omega) (by omega) (by omega) (fun _ _ _ _ _ _ _ _ _ => rfl) hE
  · rw [if_neg z] at hE
    exact hE M (fun _ _ _ _ _ _ _ _ _ => rfl)
end C9
