/-! The core by the reference; ranks and bars by the law in force. -/
section MCORE
variable {N K b : Nat} {r : Nat → Int} {s : Int}
def Fqr (b : Nat) (M M1 : gM) : Prop := ∀ c j, c ≠ b + 13 → c ≠ b + 14 → c ≠ b + 15 → c ≠ b + 16 → c ≠ b + 17 → c ≠ b + 18 → (c ≠ b ∨ j ≠ 35) → g_mi M1 c j = g_mi M c j
theorem mc_loop {M0 : gM} {R : Int32 → gM → Prop} (hN : 500 ≤ N) (hV : Vk r) (s0 : 0 ≤ s) (s1 : s ≤ 255) (hR : Rr M0 b r) (hE : ∀ M1 c, Fqr b M0 M1 → IsCore (vtR r s (r 31)) (r 0).toNat (3 * r 31).toNat c → R (iZ c) M1) : ∀ (e u n : Nat) (M : gM), u + e = (3 * r 31).toNat → e + 1 ≤ n → (∀ c j, c ≠ b + 15 → g_mi M c j = g_mi M0 c j) → (∀ v, v < u → g_mi M (b + 15) v = 0) → qX9_coreOf N K R n 0 M b (iZ s) (iZ u) := by
  have m1 := hV.1
  have m2 := hV.2.1
  have d0 := hV.2.2.2.2.1
  have d1 := hV.2.2.2.2.2.1
  have hVd := vtR_V (s := s) hV d0 d1
  intro e
  induction e with
  | zero =>
    intro u n M hu hn f hz
    obtain ⟨n2, rfl⟩ : ∃ n2, n = n2 + 1 := ⟨n - 1, by omega⟩
    have R2 : Rr M b r := fun j hj => by rw [f _ _ (by omega)]; exact hR j hj
    rw [qX9_coreOf]
    unfold pX9_coreOf_2
    intro v1 hv1
    unfold fX9_vertexMany at hv1
    rw [R2 31 (by omega), iZ_l3, iZ_mul] at hv1
    subst hv1
    have c1 : iZ (3 * r 31) ≤ iZ (u : Int) := by rw [iZ_le (by omega) (by omega) (by omega) (by omega)]; omega
    refine ⟨fun _ => ?_, fun z => absurd c1 z⟩
    refine mp_ok (rk := fun _ => 0) hN hV s0 s1 R2 (fun v hv => ⟨by rw [hz v (by omega)]; rfl, by omega, by omega⟩) (fun M1 f1 e1 _ => ?_)
    obtain ⟨p1, p2⟩ := pel_core (rk := fun _ => 0) hVd
    rw [e1]
    have := hE M1 _ (fun c j q1 q2 q3 q4 q5 q6 q7 => (f1 c j q1 q2 q4 q5 q6 q7).trans (f c j q3)) p2
    rw [show ((((r 0).toNat - (pel (vtR r s (r 31)) (r 0).toNat (3 * r 31).toNat (fun _ => 0) (r 0).toNat fun _ => true).length : Nat)) : Int) = r 0 - ((pel (vtR r s (r 31)) (r 0).toNat (3 * r 31).toNat (fun _ => 0) (r 0).toNat fun _ => true).length : Nat) by omega] at this
    exact this
  | succ e ih =>
    intro u n M hu hn f hz
    obtain ⟨n2, rfl⟩ : ∃ n2, n = n2 + 1 := ⟨n - 1, by omega⟩
    have R2 : Rr M b r := fun j hj => by rw [f _ _ (by omega)]; exact hR j hj
    rw [qX9_coreOf]
    unfold pX9_coreOf_2
    intro v1 hv1
    unfold fX9_vertexMany at hv1
    rw [R2 31 (by omega), iZ_l3, iZ_mul] at hv1
    subst hv1
    have c1 : ¬ iZ (3 * r 31) ≤ iZ (u : Int) := by rw [iZ_le (by omega) (by omega) (by omega) (by omega)]; omega
    rw [iZ_cl (show u < 2147483648 by omega), iZ_s1]
    refine ⟨fun z => absurd z c1, fun _ => ⟨iZ_in (by omega) (by omega) (by omega), fun M2 h2 => ?_⟩⟩
    refine ih (u + 1) n2 M2 (by omega) (by omega) (fun c j hc => by rw [h2, mi_wi, if_neg (by omega)]; exact f c j hc) (fun v hv => ?_)
    rcases Nat.lt_or_ge v u with z | z
    · rw [h2, mi_wi, if_neg (by omega)]; exact hz v z
    · rw [h2, mi_wi, if_pos ⟨rfl, by omega⟩]
/-- the core by the reference -/
theorem mc_ok {M : gM} {R : Int32 → gM → Prop} (hN : 500 ≤ N) (hV : Vk r) (s0 : 0 ≤ s) (s1 : s ≤ 255) (hR : Rr M b r) (hE : ∀ M1 c, Fqr b M M1 → IsCore (vtR r s (r 31)) (r 0).toNat (3 * r 31).toNat c → R (iZ c) M1) : pX9_coreOf N K M b (iZ s) R := by
  have d1 := hV.2.2.2.2.2.1
  unfold pX9_coreOf pX9_coreOf_0
  exact mc_loop hN hV s0 s1 hR hE (3 * r 31).toNat 0 N M (by omega) (by omega) (fun _ _ _ => rfl) (fun v hv => by omega)
end MCORE
/-- what a law's words tell: vertex, part, key, seed, mood, degree, time -/
def eL (v p k s md dg tm : Int) : En := fun c _ => if c = 7 then v else if c = 8 then p else if c = 9 then k else if c = 10 then s else if c = 11 then md else if c = 12 then dg else if c = 13 then tm else 0
def bd9 (x : Int) : Prop := -1000000000 ≤ x ∧ x ≤ 1000000000
theorem eL_b {v p k s md dg tm : Int} (h1 : bd9 v) (h2 : bd9 p) (h3 : bd9 k) (h4 : bd9 s) (h5 : bd9 md) (h6 : bd9 dg) (h7 : bd9 tm) : Eb (eL v p k s md dg tm) := by
  intro c j
  unfold eL
  unfold bd9 at *
  repeat' split
  all_goals omega
theorem eL_w {v p k s md dg tm : Int} {w : Nat → Int32} (h1 : w 0 = iZ v) (h2 : w 1 = iZ p) (h3 : w 2 = iZ k) (h4 : w 3 = iZ s) (h5 : w 4 = iZ md) (h6 : w 5 = iZ dg) (h7 : w 6 = iZ tm) : ∀ j : Nat, j < 7 → w j = iZ (eL v p k s md dg tm (7 + j) 0) := by
  intro j hj
  rcases (show j = 0 ∨ j = 1 ∨ j = 2 ∨ j = 3 ∨ j = 4 ∨ j = 5 ∨ j = 6 by omega) with z | z | z | z | z | z | z <;> subst z
  · exact h1
  · exact h2
  · exact h3
  · exact h4
  · exact h5
  · exact h6
  · exact h7
/-- a law in the reference's row; the law in force -/
def Lr (r : Nat → Int) (t : Nat) (cs : List (Nat × Cl)) : Prop := ∃ (cd vl : Nat → Int) (T : Nat), T ≤ 400 ∧ cd T = 0 ∧ r (205 + t) = T ∧ (∀ i, i < T → r (212 + (400 * t + i)) = cd i ∧ r (3012 + (400 * t + i)) = vl i ∧ 0 ≤ cd i ∧ cd i ≤ 355 ∧ 0 ≤ vl i ∧ vl i ≤ 20000000) ∧ RA cd vl false T 12 0 0 = .inr cs
def FL (r : Nat → Int) (cs : List (Nat × Cl)) : Prop := (r 204 = -1 ∧ cs = []) ∨ ∃ t : Nat, t < 6 ∧ r 204 = t ∧ Lr r t cs
section MTELL
variable {N K b : Nat} {r : Nat → Int} {e : En} {x : Int}
def Ft9 (b : Nat) (M M1 : gM) : Prop := ∀ c j, (c ≠ b ∨ (j ≠ 22 ∧ j ≠ 23 ∧ j ≠ 24 ∧ j ≠ 25)) → g_mi M1 c j = g_mi M c j
theorem mt_ok {M : gM} {R : Int32 → gM → Prop} {cs : List (Nat × Cl)} (hx : x = 1 ∨ x = 2) (hN : 500 ≤ N) (hK : 500 ≤ K) (hR : Rr M b r) (hF : FL r cs) (ha : ∀ j : Nat, j < 7 → g_mi M (b + 12) j = iZ (e (7 + j) 0)) (he : Eb e) (hE : ∀ M1, Ft9 b M M1 → R (iZ (tlL x e cs 0)) M1) : pX9_tells N K M b (iZ x) 0 R := by
  unfold pX9_tells pX9_tells_0
  rw [hR 204 (by omega)]
  rcases hF with ⟨f1, f2⟩ | ⟨t, t1, t2, cd, vl, T, hT, h0, h5, hrow, hra⟩
  · subst f2
    rw [f1]
    exact ⟨fun z => absurd rfl z, fun _ => hE M (fun _ _ _ => rfl)⟩
  · rw [t2]
    have nn : ¬ iZ (t : Int) = -1 := by rw [iZ_n1, iZ_eq (by omega) (by omega) (by omega) (by omega)]; omega
    refine ⟨fun _ => ?_, fun z => absurd z nn⟩
    intro M1 h1 M2 h2
    have k1 : ∀ c j, (c ≠ b ∨ j ≠ 25) → g_mi M1 c j = g_mi M c j := fun c j q => by rw [h1, mi_wi, if_neg (by omega)]
    rw [k1 _ _ (by omega), hR 204 (by omega), t2, show (400 : Int32) = iZ 400 from rfl, iZ_mul] at h2
    have k2 : ∀ c j, (c ≠ b ∨ (j ≠ 22 ∧ j ≠ 25)) → g_mi M2 c j = g_mi M c j := fun c j q => by rw [h2, mi_wi, if_neg (by omega)]; exact k1 c j (by omega)
    rw [k2 _ _ (by omega), hR 204 (by omega), t2, show (205 : Int32) = iZ 205 from rfl, iZ_add]
    refine ⟨iZ_in (by omega) (by omega) (by omega), fun M3 h3 => ?_⟩
    rw [iZ_nat (by omega) (by omega), show (205 + (t : Int)).toNat = 205 + t by omega, k2 (b + 2) _ (by omega), hR _ (by omega), h5] at h3
    have e22 : g_mi M2 b 22 = iZ (400 * (t : Int)) := by rw [h2, mi_wi, if_pos ⟨rfl, rfl⟩]
    rw [e22, iZ_add] at h3
    have k3 : ∀ c j, (c ≠ b ∨ (j ≠ 22 ∧ j ≠ 23 ∧ j ≠ 25)) → g_mi M3 c j = g_mi M c j := fun c j q => by rw [h3, mi_wi, if_neg (by omega)]; exact k2 c j (by omega)
    have ho : Eo N b (400 * t) T cd vl false e M3 := by
      refine ⟨hT, by omega, h0, ?_, ?_, fun i hi => ?_, fun _ j hj => ?_, fun z => (by cases z), he⟩
      · rw [h3, mi_wi, if_pos ⟨rfl, rfl⟩]; congr 1
      · rw [h3, mi_wi, if_neg (by omega), h2, mi_wi, if_neg (by omega), h1, mi_wi, if_pos ⟨rfl, rfl⟩]; rfl
      · obtain ⟨q1, q2, q3⟩ := hrow i hi
        rw [k3 _ _ (by omega), k3 _ _ (by omega), hR _ (by omega), hR _ (by omega), q1, q2]
        exact ⟨rfl, rfl, q3⟩
      · rw [k3 _ _ (by omega)]; exact ha j hj
    refine tl_loop ho hx hK 12 0 0 N M3 0 cs hra (Nat.zero_le _) (by omega) (by omega) Fe.rf ?_ (by omega) (by omega) (fun M4 f4 => hE M4 (fun c j q => (f4 c j (by omega)).trans (k3 c j (by omega))))
    rw [h3, mi_wi, if_neg (by omega), e22]
    congr 1
end MTELL
