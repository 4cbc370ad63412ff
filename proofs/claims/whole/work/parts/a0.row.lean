/-! Calls: row. -/
def rwP (cs : List (Nat × Cl)) (bt : Nat → Int) : Nat → Nat → (Nat → Int) → Nat → Nat → (Nat → Int) × Nat × Nat
  | 0, _, r, a, k => (r, a, k)
  | e + 1, p, r, a, k => if (acA cs r 0 (bt p * 4 + bt (p + 1))).1 < 0 then rwP cs bt e (p + 2) (acA cs r 0 (bt p * 4 + bt (p + 1))).2 a (k + 1) else rwP cs bt e (p + 2) (acA cs r 0 (bt p * 4 + bt (p + 1))).2 (a + 1) k
section RWP
variable {cs : List (Nat × Cl)} {bt : Nat → Int}
theorem rwP_V : ∀ (e p : Nat) (r : Nat → Int) (a k : Nat), Vk r → Vt r → Vk (rwP cs bt e p r a k).1 ∧ Vt (rwP cs bt e p r a k).1 ∧ (∀ i, 188 ≤ i → (rwP cs bt e p r a k).1 i = r i) ∧ (rwP cs bt e p r a k).2.1 ≤ a + e ∧ (rwP cs bt e p r a k).2.2 ≤ k + e := by
  intro e
  induction e with
  | zero => intro p r a k hV hT; exact ⟨hV, hT, fun _ _ => rfl, Nat.le_refl _, Nat.le_refl _⟩
  | succ e ih =>
    intro p r a k hV hT
    have v2 := acA_V (cs := cs) (kind := 0) (x := bt p * 4 + bt (p + 1)) hV
    have t2 := acA_T (cs := cs) (kind := 0) (x := bt p * 4 + bt (p + 1)) hV hT
    have h2 := fun i (h : 188 ≤ i) => acA_hi (cs := cs) (kind := 0) (x := bt p * 4 + bt (p + 1)) hV h
    rw [rwP]
    split
    · obtain ⟨i1, i2, i3, i4, i5⟩ := ih (p + 2) (acA cs r 0 (bt p * 4 + bt (p + 1))).2 a (k + 1) v2 t2
      exact ⟨i1, i2, fun i hi => by rw [i3 i hi, h2 i hi], by omega, by omega⟩
    · obtain ⟨i1, i2, i3, i4, i5⟩ := ih (p + 2) (acA cs r 0 (bt p * 4 + bt (p + 1))).2 (a + 1) k v2 t2
      exact ⟨i1, i2, fun i hi => by rw [i3 i hi, h2 i hi], by omega, by omega⟩
end RWP
section ROW8
variable {N K A : Nat} {cs : List (Nat × Cl)} {bt : Nat → Int} {ln : Nat}
/-- what the class's row leaves alone -/
def Frw (A : Nat) (M M1 : gM) : Prop := ∀ c j, (c < A + 2 ∨ A + 8 < c) → (c < A + 271 ∨ A + 281 < c) → (c ≠ A ∨ j ≠ 15) → g_mi M1 c j = g_mi M c j
/-- the class's loop over pairs -/
theorem rw_8 {M0 : gM} {R : Int32 → gM → Prop} (hN : 500 ≤ N) (hB : Cb M0 (A + 282) bt ln) (hF : FC M0 A (g_mi M0 (A + 1) 6) cs) : ∀ (e p n : Nat) (M : gM) (r : Nat → Int) (a k : Nat), p = 2 * (ln / 2 - e) → e ≤ ln / 2 → e + 5 ≤ n → Vk r → Vt r → Vm r → RS M (A + 1 + 1) r → Frw A M0 M → Sl M0 M → g_mi M A 15 = iZ k → (∀ M1, Frw A M0 M1 → Sl M0 M1 → RS M1 (A + 1 + 1) (rwP cs bt e p r a k).1 → g_mi M1 A 15 = iZ (((rwP cs bt e p r a k).2.2 + ln % 2 : Nat) : Int) → ∀ M2, M2 = g_wi M1 (A + 282) 5 0 → pX0_clear N K M2 (A + 13) (fun M3 => Sl M2 M3 → pX8_accept N K M3 A (iZ ((rwP cs bt e p r a k).2.1 : Int)) (fun v1 M4 => Sl M3 M4 → R v1 M4))) → a + e ≤ 400 → k + e ≤ 400 → qX8_row N K R n 0 M A (iZ ln) (iZ a) (iZ p) := by
  have l400 := hB.1
  have fa := hF.2.2.1
  intro e
  induction e with
  | zero =>
    intro p n M r a k hp he hn hV hT hm hR f hs h15 hE ha hk
    obtain ⟨n2, rfl⟩ : ∃ n2, n = n2 + 1 := ⟨n - 1, by omega⟩
    rw [qX8_row]
    unfold pX8_row_28
    by_cases od : ln % 2 = 0
    · have c1 : iZ (ln : Int) ≤ iZ (p : Int) := by rw [iZ_le (by omega) (by omega) (by omega) (by omega)]; omega
      refine ⟨fun _ M1 h1 => hE M f hs hR (by rw [h15]; show iZ (k : Int) = iZ ((k + ln % 2 : Nat) : Int); rw [od]; rfl) M1 h1, fun z => absurd c1 z⟩
    · have c1 : ¬ iZ (ln : Int) ≤ iZ (p : Int) := by rw [iZ_le (by omega) (by omega) (by omega) (by omega)]; omega
      have c2 : iZ (ln : Int) ≤ iZ (p : Int) + 1 := by rw [iZ_s1, iZ_le (by omega) (by omega) (by omega) (by omega)]; omega
      refine ⟨fun z => absurd z c1, fun _ => ⟨fun _ M4 h4 => ?_, fun z => absurd c2 z⟩⟩
      rw [h15, iZ_s1] at h4
      obtain ⟨a1, a2, a3⟩ := wi_k h4
      obtain ⟨n3, rfl⟩ : ∃ n3, n2 = n3 + 1 := ⟨n2 - 1, by omega⟩
      rw [show iZ (p : Int) + 2 = iZ ((p + 2 : Nat) : Int) by rw [iZ_l2, iZ_add]; rfl, qX8_row]
      unfold pX8_row_28
      have c3 : iZ (ln : Int) ≤ iZ ((p + 2 : Nat) : Int) := by rw [iZ_le (by omega) (by omega) (by omega) (by omega)]; omega
      have f4 : Frw A M0 M4 := fun c j q1 q2 q3 => by
        by_cases q : c = A
        · subst q; rw [a2 j (by omega), f _ j q1 q2 q3]
        · rw [a1 c q, f c j q1 q2 q3]
      have s4 : Sl M0 M4 := Sl.tr hs (by rw [h4]; exact ⟨rfl, rfl, rfl⟩)
      refine ⟨fun _ M1 h1 => hE M4 f4 s4 (hR.keep (fun c q1 q2 => a1 c (by omega))) (by rw [a3]; show iZ ((k + 1 : Nat) : Int) = iZ ((k + ln % 2 : Nat) : Int); rw [show ln % 2 = 1 by omega]) M1 h1, fun z => absurd c3 z⟩
  | succ e ih =>
    intro p n M r a k hp he hn hV hT hm hR f hs h15 hE ha hk
    obtain ⟨n2, rfl⟩ : ∃ n2, n = n2 + 1 := ⟨n - 1, by omega⟩
    rw [qX8_row]
    unfold pX8_row_28
    have c1 : ¬ iZ (ln : Int) ≤ iZ (p : Int) := by rw [iZ_le (by omega) (by omega) (by omega) (by omega)]; omega
    have c2 : ¬ iZ (ln : Int) ≤ iZ ((p + 1 : Nat) : Int) := by rw [iZ_le (by omega) (by omega) (by omega) (by omega)]; omega
    have B : ∀ i, i < ln → g_mi M (A + 282 + 1) i = iZ (bt i) ∧ 0 ≤ bt i ∧ bt i ≤ 255 := fun i hi => by rw [f _ _ (by omega) (by omega) (by omega)]; exact hB.2.2 i hi
    have p0 := B p (by omega)
    have p1 := B (p + 1) (by omega)
    rw [iZ_s1, iZ_cl (show p < 2147483648 by omega), iZ_cl (show p + 1 < 2147483648 by omega), p0.1, p1.1, iZ_l4, iZ_mul, iZ_add, show iZ (p : Int) + 2 = iZ ((p + 2 : Nat) : Int) by rw [iZ_l2, iZ_add]; rfl]
    refine ⟨fun z => absurd z c1, fun _ => ⟨fun z => absurd z c2, fun _ => ⟨iZ_in (by omega) (by omega) (by omega), iZ_in (by omega) (by omega) (by omega), ?_⟩⟩⟩
    have e6 : g_mi M (A + 1) = g_mi M0 (A + 1) := by funext j; exact f _ _ (by omega) (by omega) (by omega)
    have F1 : FC M A (g_mi M (A + 1) 6) cs := by
      rw [e6]
      exact hF.keep hs (by rw [e6]) (fun c q1 q2 => by funext j; exact f c j (by omega) (by omega) (by omega))
    have ab := acA_b (cs := cs) (kind := 0) (x := bt p * 4 + bt (p + 1)) hV
    have v2 := acA_V (cs := cs) (kind := 0) (x := bt p * 4 + bt (p + 1)) hV
    have t2 := acA_T (cs := cs) (kind := 0) (x := bt p * 4 + bt (p + 1)) hV hT
    have hh := fun i (h : 188 ≤ i) => acA_hi (cs := cs) (kind := 0) (x := bt p * 4 + bt (p + 1)) hV h
    have ea : acA cs r 0 (bt p * 4 + bt (p + 1)) = adA cs r (bt p * 4 + bt (p + 1)) := by unfold acA; rw [if_pos rfl]
    rw [rwP] at hE
    rw [ea] at hE ab v2 t2 hh
    have m2 : Vm (adA cs r (bt p * 4 + bt (p + 1))).2 := by unfold Vm at hm ⊢; rw [hh 201 (by omega)]; exact hm
    refine ad_8 (cs := cs) hN hV hm hR.1 hR.2.2.1 (by omega) F1 (by omega) (by omega) (fun M5 f5 k5 s5 => ?_)
    have S5 : RS M5 (A + 1 + 1) (adA cs r (bt p * 4 + bt (p + 1))).2 := hR.of hT k5 (fun c q1 q2 => f5 c (by omega) (by omega) (by omega) (by omega)) (fun i h1 h2 => by
      rcases adA_o (cs := cs) (r := r) (x := bt p * 4 + bt (p + 1)) with w | w | w | ⟨w, _, _, _, w30⟩ <;> rw [w]
      exact addR_hi hV w30 (by omega)) (hh 200 (by omega)) (hh 201 (by omega))
    have g5 : Frw A M0 M5 := fun c j q1 q2 q3 => by rw [f5 c (by omega) (by omega) (by omega) (by omega), f c j q1 q2 q3]
    have s6 : Sl M0 M5 := Sl.tr hs s5
    have b15 : g_mi M5 A 15 = iZ (k : Int) := by rw [f5 A (by omega) (by omega) (by omega) (by omega)]; exact h15
    generalize adA cs r (bt p * 4 + bt (p + 1)) = q at *
    have c3 : (iZ q.1 < 0) = (q.1 < 0) := by rw [iZ_l0, iZ_lt (by omega) (by omega) (by omega) (by omega)]
    rw [c3]
    refine ⟨fun z M6 h6 => ?_, fun z => ?_⟩
    · rw [if_pos z] at hE
      rw [b15, iZ_s1] at h6
      obtain ⟨a1, a2, a3⟩ := wi_k h6
      refine ih (p + 2) n2 M6 q.2 a (k + 1) (by omega) (by omega) (by omega) v2 t2 m2 (S5.keep (fun c q1 q2 => a1 c (by omega))) (fun c j q1 q2 q3 => ?_) (Sl.tr s6 (by rw [h6]; exact ⟨rfl, rfl, rfl⟩)) a3 hE (by omega) (by omega)
      by_cases w : c = A
      · subst w; rw [a2 j (by omega), g5 _ j q1 q2 q3]
      · rw [a1 c w, g5 c j q1 q2 q3]
    · rw [if_neg z] at hE
      rw [iZ_s1]
      exact ih (p + 2) n2 M5 q.2 (a + 1) k (by omega) (by omega) (by omega) v2 t2 m2 S5 g5 s6 b15 hE (by omega) (by omega)
end ROW8
section ROW9
variable {N K b : Nat} {cs : List (Nat × Cl)} {bt : Nat → Int} {ln : Nat}
def Frw9 (b : Nat) (M M1 : gM) : Prop := ∀ c j, c ≠ b + 2 → c ≠ b + 12 → (c ≠ b ∨ (j ≠ 6 ∧ j ≠ 22 ∧ j ≠ 23 ∧ j ≠ 24 ∧ j ≠ 25)) → g_mi M1 c j = g_mi M c j
theorem rw_9 {M0 : gM} {R : Int32 → gM → Prop} (hN : 500 ≤ N) (hK : 500 ≤ K) (hB : Mb M0 b bt ln) : ∀ (e p n : Nat) (M : gM) (r : Nat → Int) (a k : Nat), p = 2 * (ln / 2 - e) → e ≤ ln / 2 → e + 1 ≤ n → Vk r → Vt r → Vm r → FL r cs → Rr M b r → Frw9 b M0 M → g_mi M b 6 = iZ ((k + ln % 2 : Nat) : Int) → (∀ M1, Frw9 b M0 M1 → Rr M1 b (rwP cs bt e p r a k).1 → g_mi M1 b 6 = iZ (((rwP cs bt e p r a k).2.2 + ln % 2 : Nat) : Int) → pX9_settled N K M1 b (iZ ((rwP cs bt e p r a k).2.1 : Int)) (fun v1 M2 => R v1 M2)) → a + e ≤ 400 → k + e ≤ 400 → qX9_row N K R n 0 M b (iZ ln) (iZ a) (iZ p) := by
  have l400 := hB.1
  intro e
  induction e with
  | zero =>
    intro p n M r a k hp he hn hV hT hm hF hR f h6 hE ha hk
    obtain ⟨n2, rfl⟩ : ∃ n2, n = n2 + 1 := ⟨n - 1, by omega⟩
    rw [qX9_row]
    unfold pX9_row_32
    have c1 : iZ (ln : Int) < iZ (p : Int) + 2 := by rw [iZ_l2, iZ_add, iZ_lt (by omega) (by omega) (by omega) (by omega)]; omega
    exact ⟨fun _ => hE M f hR h6, fun z => absurd c1 z⟩
  | succ e ih =>
    intro p n M r a k hp he hn hV hT hm hF hR f h6 hE ha hk
    obtain ⟨n2, rfl⟩ : ∃ n2, n = n2 + 1 := ⟨n - 1, by omega⟩
    rw [qX9_row]
    unfold pX9_row_32
    have c1 : ¬ iZ (ln : Int) < iZ ((p + 2 : Nat) : Int) := by rw [iZ_lt (by omega) (by omega) (by omega) (by omega)]; omega
    have B : ∀ i, i < ln → g_mi M (b + 7) i = iZ (sb (bt i)) ∧ 0 ≤ bt i ∧ bt i ≤ 255 := fun i hi => by rw [f _ _ (by omega) (by omega) (by omega)]; exact hB.2 i hi
    have p0 := B p (by omega)
    have p1 := B (p + 1) (by omega)
    rw [iZ_s1, iZ_cl (show p < 2147483648 by omega), iZ_cl (show p + 1 < 2147483648 by omega), p0.1, p1.1, sb_an p0.2.1 p0.2.2, sb_an p1.2.1 p1.2.2, iZ_l4, iZ_mul, iZ_add, show iZ (p : Int) + 2 = iZ ((p + 2 : Nat) : Int) by rw [iZ_l2, iZ_add]; rfl]
    refine ⟨fun z => absurd z c1, fun _ => ⟨iZ_in (by omega) (by omega) (by omega), iZ_in (by omega) (by omega) (by omega), ?_⟩⟩
    have ab := acA_b (cs := cs) (kind := 0) (x := bt p * 4 + bt (p + 1)) hV
    have v2 := acA_V (cs := cs) (kind := 0) (x := bt p * 4 + bt (p + 1)) hV
    have t2 := acA_T (cs := cs) (kind := 0) (x := bt p * 4 + bt (p + 1)) hV hT
    have hh := fun i (h : 188 ≤ i) => acA_hi (cs := cs) (kind := 0) (x := bt p * 4 + bt (p + 1)) hV h
    have ea : acA cs r 0 (bt p * 4 + bt (p + 1)) = adA cs r (bt p * 4 + bt (p + 1)) := by unfold acA; rw [if_pos rfl]
    rw [rwP] at hE
    rw [ea] at hE ab v2 t2 hh
    have m2 : Vm (adA cs r (bt p * 4 + bt (p + 1))).2 := by unfold Vm at hm ⊢; rw [hh 201 (by omega)]; exact hm
    have F2 : FL (adA cs r (bt p * 4 + bt (p + 1))).2 cs := hF.cg (fun i h1 _ => hh i (by omega))
    refine ad_9 hN hK hV hm hR hF (by omega) (by omega) (fun M5 f5 R5 => ?_)
    have g5 : Frw9 b M0 M5 := fun c j q1 q2 q3 => by rw [f5 c j q1 q2 (by omega), f c j q1 q2 q3]
    have b6 : g_mi M5 b 6 = iZ ((k + ln % 2 : Nat) : Int) := by rw [f5 _ _ (by omega) (by omega) (by omega)]; exact h6
    generalize adA cs r (bt p * 4 + bt (p + 1)) = q at *
    have c3 : (iZ q.1 < 0) = (q.1 < 0) := by rw [iZ_l0, iZ_lt (by omega) (by omega) (by omega) (by omega)]
    rw [c3]
    have fw : ∀ (M6 : gM) (v : Int32), M6 = g_wi M5 b 6 v → Frw9 b M0 M6 ∧ Rr M6 b q.2 ∧ g_mi M6 b 6 = v := fun M6 v h => by
      obtain ⟨a1, a2, a3⟩ := wi_k h
      refine ⟨fun c j q1 q2 q3 => ?_, R5.kp (a1 _ (by omega)), a3⟩
      by_cases w : c = b
      · subst w; rw [a2 j (by omega), g5 _ j q1 q2 q3]
      · rw [a1 c w, g5 c j q1 q2 q3]
    refine ⟨fun z M6 h6 => ?_, fun z M6 h6 => ?_⟩
    · rw [if_pos z] at hE
      obtain ⟨u1, u2, u3⟩ := fw M6 _ h6
      rw [b6, iZ_s1] at u3
      rw [iZ_l0, iZ_add, Int.add_zero]
      exact ih (p + 2) n2 M6 q.2 a (k + 1) (by omega) (by omega) (by omega) v2 t2 m2 F2 u2 u1 (by rw [u3]; congr 1; omega) hE (by omega) (by omega)
    · rw [if_neg z] at hE
      obtain ⟨u1, u2, u3⟩ := fw M6 _ h6
      rw [b6, iZ_l0, iZ_add, Int.add_zero] at u3
      rw [iZ_s1]
      exact ih (p + 2) n2 M6 q.2 (a + 1) k (by omega) (by omega) (by omega) v2 t2 m2 F2 u2 u1 u3 hE (by omega) (by omega)
end ROW9
section OBR
variable {X : gX} {A : Nat}
theorem ob_row : Ob X 1311 0 0 kX8_row kX9_row (INV A) A (A + 329) [] := by
  refine ob_og (P8 := fun M R => pX8_row 20000 1290 M A R) (P9 := fun M R => pX9_row 20000 1290 M (A + 329) R) (fun M R Q s hh hR => uX8_row (d := 1307) s hh (fun v M1 j h => hR v M1 j.l h)) (fun M R Q s hh hR => Cn.cd (show 11 + 1290 + 10 = 1311 by omega) (uX9_row (d := 11) (K := 1290) s hh (fun v M1 j h => hR v M1 j.l h))) (fun M r lw H im ilw bt ln fr dr ms hp hc => ?_)
  have hv := hp.1
  have hT := hc.2.2.2.2.2.2.1
  have l400 := hT.1
  have c1 : (iZ (ln : Int) = 0) = (ln = 0) := by rw [iZ_l0, iZ_eq (by omega) (by omega) (by omega) (by omega)]; exact propext ⟨fun _ => by omega, fun _ => by omega⟩
  unfold pX8_row pX8_row_0
  rw [hT.2.1, c1]
  refine ⟨fun z M1 h1 => ?_, fun z => ?_⟩
  · obtain ⟨a1, a2, a3⟩ := wi_k h1
    have s1 : Sl M M1 := by rw [h1]; exact ⟨rfl, rfl, rfl⟩
    have hF := hc.fc hp
    have fa := hF.2.2.1
    obtain ⟨i1, i2, i3, i4, i5⟩ := rwP_V (cs := lwA lw (r 204)) (bt := bt) (ln / 2) 0 r 0 0 hv.k hv.t
    obtain ⟨f, hf⟩ := hc.2.2.2.1
    refine rw_8 (M0 := M1) (bt := bt) (cs := lwA lw (r 204)) (by omega) (hT.kp (by rw [a1 _ (by omega)]) (a1 _ (by omega))) (by rw [a1 _ (by omega)]; exact hF.keep s1 (by rw [a1 _ (by omega)]) (fun c q1 q2 => a1 c (by omega))) (ln / 2) 0 20000 M1 r 0 0 (by omega) (by omega) (by omega) hv.k hv.t hv.m (hc.rs.keep (fun c q1 q2 => a1 c (by omega))) (fun _ _ _ _ _ => rfl) ⟨rfl, rfl, rfl⟩ a3 (fun M2 f2 s2 S2 b2 M3 h3 => ?_) (by omega) (by omega)
    generalize hq : rwP (lwA lw (r 204)) bt (ln / 2) 0 r 0 0 = q at *
    unfold pX0_clear pX8_accept
    intro M4 h4 _ M5 h5 _
    obtain ⟨p1, p2, p3⟩ := wi_k h3
    obtain ⟨d1, d2, d3⟩ := wi_k h4
    obtain ⟨g1, g2, g3⟩ := wi_k h5
    have kk : ∀ c, c ≠ A → (c < A + 2 ∨ A + 8 < c) → c ≠ A + 13 → (c < A + 271 ∨ A + 281 < c) → c ≠ A + 282 → g_mi M5 c = g_mi M c := fun c q0 q1 q2 q3 q4 => by
      rw [g1 c q0, d1 c q2, p1 c q4]
      funext j
      rw [f2 c j q1 q3 (Or.inl q0), a1 c q0]
    have hp2 : PVs q.1 lw [] im ilw := ⟨hv.up i1 i2 (fun i h1 _ => i3 i h1), VL.up hv hp.2.1 (fun i h1 _ => i3 i (by omega)), fun e he => (by cases he), hp.2.2.2⟩
    refine ⟨fun c q1 q2 => kk c (by omega) (by omega) (by omega) (by omega) (by omega), q.1, lw, [], im, ilw, bt, 0, fr, dr, va_up (va_up ms 2 (iZ ((q.2.2 + ln % 2 : Nat) : Int))) 0 0, hp2, fun s => ?_, fun M6 hr => ?_⟩
    · refine hc.mix s (fun c q => kk c (by omega) (by omega) (by omega) (by omega) (by omega)) (hc.2.1.st hv s (S2.keep (fun c q1 q2 => by rw [g1 c (by omega), d1 c (by omega), p1 c (by omega)])) (fun i h1 _ => i3 i h1) (kk _ (by omega) (by omega) (by omega) (by omega) (by omega)) (fun c q1 q2 => kk c (by omega) (by omega) (by omega) (by omega) (by omega)) (fun c q => kk c (by omega) (by omega) (by omega) (by omega) (by omega))) ⟨f, (nil_H (H := H) (M := M3) (hf.keep (fun c q1 q2 => by rw [p1 c (by omega)]; funext j; rw [f2 c j (by omega) (by omega) (by omega), a1 c (by omega)])) h4).keep (fun c q1 q2 => g1 c (by omega))⟩ (hc.2.2.2.2.1.keep (by rw [kk _ (by omega) (by omega) (by omega) (by omega) (by omega)])) ⟨by omega, ?_, fun i hi => by omega⟩ (hc.2.2.2.2.2.2.2.1.kp (kk _ (by omega) (by omega) (by omega) (by omega) (by omega))) (hc.2.2.2.2.2.2.2.2.1.kp (kk _ (by omega) (by omega) (by omega) (by omega) (by omega))) ⟨g3, ?_, ?_, ?_⟩
      · rw [g1 _ (by omega), d1 _ (by omega), p3]; rfl
      · rw [g1 _ (by omega), d1 _ (by omega), p2 6 (by omega), f2 _ _ (by omega) (by omega) (by omega), a1 _ (by omega)]; exact hc.2.2.2.2.2.2.2.2.2.2.1
      · rw [g2 15 (by omega), d1 _ (by omega), p1 _ (by omega), b2]; rfl
      · rw [g2 14 (by omega), d1 _ (by omega), p1 _ (by omega), f2 _ _ (by omega) (by omega) (by omega), a2 14 (by omega)]; exact hc.2.2.2.2.2.2.2.2.2.2.2.2
    · show pX9_row 20000 1290 M6 (A + 329) _
      unfold pX9_row pX9_row_0
      intro M7 h7
      rw [hr.2.2.2.2.1.2.1, c1]
      refine ⟨fun _ M8 h8 => ?_, fun w => absurd w z⟩
      have r2 : i_rm (iZ (ln : Int)) 2 = iZ ((0 + ln % 2 : Nat) : Int) := by
        rw [iZ_l2, iZ_rm (by omega) (by omega) (by omega) (by omega), Int.tmod_eq_emod_of_nonneg (by omega)]; congr 1; omega
      rw [r2] at h8
      obtain ⟨u1, u2, u3⟩ := wi_k h7
      obtain ⟨t1, t2, t3⟩ := wi_k h8
      refine rw_9 (M0 := M8) (cs := lwA lw (r 204)) (bt := bt) (by omega) (by omega) (hr.2.2.2.2.1.1.kp (by rw [t1 _ (by omega), u1 _ (by omega)])) (ln / 2) 0 20000 M8 r 0 0 (by omega) (by omega) (by omega) hv.k hv.t hv.m hp.fl (hr.2.1.kp (by rw [t1 _ (by omega), u1 _ (by omega)])) (fun _ _ _ _ _ => rfl) t3 (fun M9 f9 R9 b9 => ?_) (by omega) (by omega)
      rw [hq] at R9 b9 ⊢
      unfold pX9_settled pX9_good0
      intro M10 h10 M11 h11
      obtain ⟨v1, v2, v3⟩ := wi_k h10
      obtain ⟨w1, w2, w3⟩ := wi_k h11
      have kf : ∀ c, c ≠ A + 329 → c ≠ A + 329 + 2 → c ≠ A + 329 + 12 → g_mi M11 c = g_mi M6 c := fun c q1 q2 q3 => by
        rw [w1 c q1, v1 c q1]
        funext j
        rw [f9 c j q2 q3 (Or.inl q1), t1 c q1, u1 c q1]
      have k0 : ∀ j, (j = 14 ∨ j = 40 ∨ j = 48) → g_mi M11 (A + 329) j = g_mi M6 (A + 329) j := fun j q => by rw [w2 j (by omega), v2 j (by omega), f9 _ j (by omega) (by omega) (by omega), t2 j (by omega), u2 j (by omega)]
      refine ⟨rfl, fun c q => kf c (by omega) (by omega) (by omega), fun s => ?_⟩
      refine hr.mix s (fun c q => kf c (by omega) (by omega) (by omega)) (R9.kp (by rw [w1 _ (by omega), v1 _ (by omega)])) ⟨by simp, by rw [w2 38 (by omega), v3]; rfl, fun j e he => (by cases he)⟩ ⟨by omega, fun i hi => by omega⟩ ?_ (hr.2.2.2.2.2.1.kp (kf _ (by omega) (by omega) (by omega))) (hr.2.2.2.2.2.2.1.kp (k0 _ (by omega)) (kf _ (by omega) (by omega) (by omega))) ⟨w3, ?_, ?_, ?_⟩
      · rw [w2 13 (by omega), v2 13 (by omega), f9 _ _ (by omega) (by omega) (by omega), t2 13 (by omega), u3]; rfl
      · rw [k0 _ (by omega)]; exact hr.2.2.2.2.2.2.2.2.1
      · rw [w2 6 (by omega), v2 6 (by omega), b9]; rfl
      · rw [k0 _ (by omega)]; exact hr.2.2.2.2.2.2.2.2.2.2
  · have e6 : (-6 : Int32) = iZ (-6) := by rw [iZ_l6, iZ_neg]
    rw [e6]
    obtain ⟨f, hf⟩ := hc.2.2.2.1
    refine rf_8 (Or.inr (Or.inr (Or.inr (Or.inr rfl)))) hc.2.2.2.2.2.2.2.1 (fun M1 k1 s1 r1 _ => ?_)
    refine ⟨fun c q1 q2 => by funext j; exact k1 c j (by omega) (by omega), r, lw, H, im, ilw, bt, ln, _, dr, _, hp, fun s => hc.ch hv s (fun c j q1 q2 q3 q4 q5 => k1 c j q5 q4) (hc.rs.keep (fun c q1 q2 => by funext j; exact k1 c j (by omega) (by omega))) (fun _ _ _ => rfl) (hf.keep (fun c q1 q2 => by funext j; exact k1 c j (by omega) (by omega))) s1 r1, fun M2 hr => ?_⟩
    show pX9_row 20000 1290 M2 (A + 329) _
    unfold pX9_row pX9_row_0
    intro M7 h7
    rw [hr.2.2.2.2.1.2.1, c1, e6]
    obtain ⟨u1, u2, u3⟩ := wi_k h7
    refine ⟨fun w => absurd z w, fun _ => rf_9 (Or.inr (Or.inr (Or.inr (Or.inr rfl)))) (hr.2.2.2.2.2.1.kp (u1 _ (by omega))) (fun M3 k3 s3 r3 => ⟨rfl, fun c q => by funext j; rw [k3 c j (by omega) (by omega), u1 c (by omega)], fun s => ?_⟩)⟩
    have z13 : g_mi M7 (A + 329) 13 = g_mi M2 (A + 329) 13 := by rw [u3, hr.2.2.2.2.1.2.1, z]; rfl
    have u4 : ∀ c j, g_mi M7 c j = g_mi M2 c j := fun c j => by
      by_cases w : c = A + 329 ∧ j = 13
      · obtain ⟨w1, w2⟩ := w
        rw [w1, w2]; exact z13
      · by_cases w2 : c = A + 329
        · subst w2; exact u2 j (by omega)
        · rw [u1 c w2]
    exact hr.ch s (fun c j q1 q2 q3 q4 q5 q6 => by rw [k3 c j (by omega) q1, u4]) (hr.2.1.kp (by funext j; rw [k3 _ _ (by omega) (by omega), u4])) (hr.2.2.1.keep (by rw [k3 _ _ (by omega) (by omega), u4]) (by funext j; rw [k3 _ _ (by omega) (by omega), u4])) s3 r3
end OBR
