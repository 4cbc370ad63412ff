/-! Changes that are kept, both programs. -/
def ansH (H : List ((Nat → Int) × Int)) (r : Nat → Int) (kind : Nat) (a : Int) : List ((Nat → Int) × Int) := if 0 ≤ a then pshH H (r, (kind : Int)) else H
section CH8
variable {N K A f : Nat} {r : Nat → Int} {cs : List (Nat × Cl)} {kind : Nat} {x : Int} {H : List ((Nat → Int) × Int)} {fr : Nat → Int32}
def Fch (A : Nat) (M M1 : gM) : Prop := ∀ c j, (c < A + 2 ∨ A + 8 < c) → (c < A + 13 ∨ A + 134 < c) → (c < A + 271 ∨ A + 281 < c) → c ≠ A + 304 → (c ≠ A ∨ j ≠ 16) → g_mi M1 c j = g_mi M c j
theorem ch_8 {M : gM} {R : Int32 → gM → Prop} (hN : 500 ≤ N) (hV : Vk r) (hT : Vt r) (hm : Vm r) (hR : RS M (A + 1 + 1) r) (hF : FC M A (g_mi M (A + 1) 6) cs) (hH : RHf M (A + 13) f H) (hf : Rfs M A fr) (hk : kind ≤ 4) (x1 : -2147483648 ≤ x) (x2 : x < 2147483648) (hE : ∀ M1 f1, Fch A M M1 → RS M1 (A + 1 + 1) (acA cs r kind x).2 → RHf M1 (A + 13) f1 (ansH H r kind (acA cs r kind x).1) → g_mi M1 A 16 = iZ (if 0 ≤ (acA cs r kind x).1 then 0 else (acA cs r kind x).1) → Rfs M1 A (if 0 ≤ (acA cs r kind x).1 then fr else refU fr (acA cs r kind x).1) → R (iZ (acA cs r kind x).1) M1) : pX8_change N K M A (iZ kind) (iZ x) R := by
  have lt := Nat.mod_lt (f + H.length) (show 17 > 0 by omega)
  have fa := hF.2.2.1
  unfold pX8_change
  refine dr_8 hH hV hT hR (by omega) (fun M1 k1 H1 S1 sl1 => ?_)
  have e6 : g_mi M1 (A + 1) = g_mi M (A + 1) := k1 _ (by omega)
  have F1 : FC M1 A (g_mi M1 (A + 1) 6) cs := by
    rw [e6]
    exact hF.keep sl1 (by rw [e6]) (fun c q1 q2 => k1 c (by omega))
  refine ca_8 hN hV hT hm (hR.keep (fun c q1 q2 => k1 c (by omega))) (by omega) (by omega) F1 hk x1 x2 (fun M2 k2 S2 sl2 => ?_)
  have ab := acA_b (cs := cs) (kind := kind) (x := x) hV
  have ng := fun h => acA_n (cs := cs) (kind := kind) (x := x) hV h
  generalize acA cs r kind x = a at *
  have H2 : RHf M2 (A + 13) f H := H1.keep (fun c q1 q2 => k2 c (by omega) (by omega))
  have c1 : (0 ≤ iZ a.1) = (0 ≤ a.1) := by rw [iZ_l0, iZ_le (by omega) (by omega) (by omega) (by omega)]
  rw [c1]
  refine ⟨fun z => ?_, fun z => ?_⟩
  · refine kp_8 H2 (S1.keep (fun c q1 q2 => k2 c (by omega) (by omega))) (fun M3 f3 k3 H3 _ => ?_)
    unfold pX8_accept
    intro M4 h4 _
    obtain ⟨a1, a2, a3⟩ := wi_k h4
    rw [if_pos z, if_pos z] at hE
    unfold ansH at hE
    rw [if_pos z] at hE
    refine hE M4 f3 (fun c j q1 q2 q3 q4 q5 => ?_) (S2.keep (fun c q1 q2 => by rw [a1 c (by omega), k3 c (by omega) (by omega)])) (H3.keep (fun c q1 q2 => a1 c (by omega))) (by rw [a3]; rfl) (fun i hi => ?_)
    · by_cases q : c = A
      · subst q; rw [a2 j (by omega), k3 _ (by omega) (by omega), k2 _ (by omega) (by omega), k1 _ (by omega)]
      · rw [a1 c q, k3 c (by omega) (by omega), k2 c (by omega) (by omega), k1 c (by omega)]
    · rw [a1 _ (by omega), k3 _ (by omega) (by omega), k2 _ (by omega) (by omega), k1 _ (by omega)]; exact hf i hi
  · rw [if_neg z, if_neg z] at hE
    unfold ansH at hE
    rw [if_neg z] at hE
    obtain ⟨_, g2⟩ := ng (by omega)
    refine rf_8 (f := fr) (by unfold isR; omega) (fun i hi => by rw [k2 _ (by omega) (by omega), k1 _ (by omega)]; exact hf i hi) (fun M3 k3 s3 r3 _ => ?_)
    refine hE M3 f (fun c j q1 q2 q3 q4 q5 => ?_) (S2.keep (fun c q1 q2 => by funext j; rw [k3 c j (by omega) (by omega)])) (H2.keep (fun c q1 q2 => by funext j; rw [k3 c j (by omega) (by omega)])) s3 r3
    rw [k3 c j q5 q4, k2 c (by omega) (by omega), k1 c (by omega)]
theorem un_8 {M : gM} {R : Int32 → gM → Prop} (hR : RS M (A + 1 + 1) r) (hH : RHf M (A + 13) f H) (hV : ∀ e ∈ H, Vk e.1 ∧ Vt e.1 ∧ 0 ≤ e.2 ∧ e.2 ≤ 4) (hf : Rfs M A fr) (h0 : H.length = 0 → ∀ M1, (∀ c j, c ≠ A + 304 → (c ≠ A ∨ j ≠ 16) → g_mi M1 c j = g_mi M c j) → g_mi M1 A 16 = iZ (-3) → Rfs M1 A (refU fr (-3)) → R (iZ (-3)) M1) (hE : ∀ M1 e, H[H.length - 1]? = some e → (∀ c j, (c < A + 2 ∨ A + 8 < c) → (c ≠ A + 13 ∨ j ≠ 3) → (c ≠ A ∨ j ≠ 16) → g_mi M1 c j = g_mi M c j) → RHf M1 (A + 13) f (H.take (H.length - 1)) → RS M1 (A + 1 + 1) e.1 → g_mi M1 A 16 = 0 → R (iZ e.2) M1) : pX8_undo N K M A R := by
  unfold pX8_undo
  refine tk_8 hH (fun e he => ⟨(hV e he).1, (hV e he).2.1⟩) (by omega) (fun z _ => ?_) (fun M1 e he k1 H1 S1 _ => ?_)
  · rw [iZ_m3]
    refine ⟨fun q => absurd q (by decide), fun _ => rf_8 (Or.inr (Or.inr (Or.inl rfl))) hf (fun M1 k1 s1 r1 _ => h0 z M1 (fun c j q1 q2 => k1 c j q2 q1) s1 r1)⟩
  · obtain ⟨_, _, b1, b2⟩ := hV e (List.mem_of_getElem? he)
    refine ⟨fun _ => ?_, fun q => absurd ?_ q⟩
    · unfold pX8_accept
      intro M2 h2 _
      obtain ⟨a1, a2, a3⟩ := wi_k h2
      refine hE M2 e he (fun c j q1 q2 q3 => ?_) (H1.keep (fun c q1 q2 => a1 c (by omega))) (S1.keep (fun c q1 q2 => a1 c (by omega))) a3
      by_cases q : c = A
      · subst q; rw [a2 j (by omega), k1 _ _ (by omega) (by omega)]
      · rw [a1 c q, k1 c j q2 (by omega)]
    · rw [iZ_l0, iZ_le (by omega) (by omega) (by omega) (by omega)]; exact b1
end CH8
section CH9
variable {N K b : Nat} {r : Nat → Int} {cs : List (Nat × Cl)} {x : Int} {H : List ((Nat → Int) × Int)} {fr : Nat → Int32}
/-- what a kept act of the reference leaves -/
def Fak (b : Nat) (M M1 : gM) : Prop := ∀ c j, c ≠ b + 2 → (c ≠ b + 5 ∨ j < 376) → c ≠ b + 19 → (c < b + 12 ∨ b + 18 < c) → (c ≠ b ∨ (j ≠ 22 ∧ j ≠ 23 ∧ j ≠ 24 ∧ j ≠ 25 ∧ j ≠ 35 ∧ j ≠ 38)) → g_mi M1 c j = g_mi M c j
/-- aside, an act, kept: one form for the five -/
theorem ak_gen {M : gM} {R : Int32 → gM → Prop} {kind : Nat} {P : gM → (Int32 → gM → Prop) → Prop} (hN : 4000 ≤ N) (hV : Vk r) (hR : Rr M b r) (hH : RLh M b H) (hP : ∀ (M1 : gM) (Q : Int32 → gM → Prop), Rr M1 b r → (∀ M2, Fbd b M1 M2 → Rr M2 b (acA cs r kind x).2 → Q (iZ (acA cs r kind x).1) M2) → P M1 Q) (hE : ∀ M1, Fak b M M1 → Rr M1 b (acA cs r kind x).2 → RLh M1 b (ansH H r kind (acA cs r kind x).1) → R (iZ (acA cs r kind x).1) M1) : pX9_laysAside N K M b 2 (fun M1 => P M1 (fun v1 M2 => pX9_keptOr N K M2 b (iZ kind) v1 (fun v2 M3 => R v2 M3))) := by
  rw [show (2 : Int32) = iZ ((2 : Nat) : Int) from rfl]
  have ab := acA_b (cs := cs) (kind := kind) (x := x) hV
  refine as_9 (by omega) (by omega) hR (fun M1 f1 a1 => ?_)
  refine hP M1 _ (fun i hi => by rw [f1 _ _ (by omega)]; exact hR i hi) (fun M2 f2 R2 => ?_)
  refine ko_9 (e := r) (H := H) hN (hH.keep (by rw [f2 _ _ (by omega) (by omega) (by omega), f1 _ _ (by omega)]) (by funext j; rw [f2 _ _ (by omega) (by omega) (by omega), f1 _ _ (by omega)])) (fun i hi => by rw [f2 _ _ (by omega) (by omega) (by omega)]; exact a1 i hi) (by omega) (by omega) (fun M3 f3 H3 => ?_)
  refine hE M3 (fun c j q1 q2 q3 q4 q5 => ?_) (fun i hi => by rw [f3 _ _ (by omega) (by omega)]; exact R2 i hi) H3
  rw [f3 c j q3 (by omega), f2 c j q1 q4 (by omega), f1 c j (by omega)]
theorem kA_9 {M : gM} {R : Int32 → gM → Prop} (hN : 4000 ≤ N) (hK : 500 ≤ K) (hV : Vk r) (hm : Vm r) (hR : Rr M b r) (hF : FL r cs) (hH : RLh M b H) (x1 : -2147483648 ≤ x) (x2 : x < 2147483648) (hE : ∀ M1, Fak b M M1 → Rr M1 b (acA cs r 0 x).2 → RLh M1 b (ansH H r 0 (acA cs r 0 x).1) → R (iZ (acA cs r 0 x).1) M1) : pX9_addsKept N K M b (iZ x) R := by
  unfold pX9_addsKept
  exact ak_gen (kind := 0) (P := fun M1 Q => pX9_adds N K M1 b (iZ x) Q) hN hV hR hH (fun M1 Q R1 hQ => ad_9 (by omega) hK hV hm R1 hF x1 x2 (fun M2 f2 R2 => hQ M2 (fun c j q1 q2 q3 => f2 c j q1 (by omega) (by omega)) R2)) hE
theorem kT_9 {M : gM} {R : Int32 → gM → Prop} (hN : 4000 ≤ N) (hV : Vk r) (hR : Rr M b r) (hH : RLh M b H) (x1 : -2147483648 ≤ x) (x2 : x < 2147483648) (hE : ∀ M1, Fak b M M1 → Rr M1 b (acA cs r 1 x).2 → RLh M1 b (ansH H r 1 (acA cs r 1 x).1) → R (iZ (acA cs r 1 x).1) M1) : pX9_takesKept N K M b (iZ x) R := by
  unfold pX9_takesKept
  refine ak_gen (kind := 1) (P := fun M1 Q => (EX9_takesKey N M1 b (iZ x)) ∧ ∀ v1 : Int32, v1 = (fX9_takesKey N M1 b (iZ x)) → ∀ M2 : gM, M2 = (mX9_takesKey N M1 b (iZ x)) → Q v1 M2) hN hV hR hH (fun M1 Q R1 hQ => ?_) hE
  obtain ⟨t1, t2, t3, t4⟩ := take_9 (N := N) (k := x) (by omega) hV R1 x1 x2
  refine ⟨t1, fun v1 hv1 M2 h2 => ?_⟩
  rw [← h2] at t3 t4
  rw [hv1, t2]
  exact hQ M2 (fun c j q1 _ _ => t4.at (by omega) j) t3
theorem kS_9 {M : gM} {R : Int32 → gM → Prop} (hN : 4000 ≤ N) (hV : Vk r) (hR : Rr M b r) (hH : RLh M b H) (x1 : -2147483648 ≤ x) (x2 : x < 2147483648) (hE : ∀ M1, Fak b M M1 → Rr M1 b (acA cs r 2 x).2 → RLh M1 b (ansH H r 2 (acA cs r 2 x).1) → R (iZ (acA cs r 2 x).1) M1) : pX9_sideKept N K M b (iZ x) R := by
  unfold pX9_sideKept
  refine ak_gen (kind := 2) (P := fun M1 Q => ∀ v1 : Int32, v1 = (fX9_setsSide M1 b (iZ x)) → ∀ M2 : gM, M2 = (mX9_setsSide M1 b (iZ x)) → Q v1 M2) hN hV hR hH (fun M1 Q R1 hQ => ?_) hE
  obtain ⟨t2, t3, t4⟩ := side_9 (x := x) hV R1 x1 x2
  intro v1 hv1 M2 h2
  rw [← h2] at t3 t4
  rw [hv1, t2]
  exact hQ M2 (fun c j q1 _ _ => t4.at (by omega) j) t3
theorem kE_9 {M : gM} {R : Int32 → gM → Prop} (hN : 4000 ≤ N) (hV : Vk r) (hR : Rr M b r) (hH : RLh M b H) (x1 : -2147483648 ≤ x) (x2 : x < 2147483648) (hE : ∀ M1, Fak b M M1 → Rr M1 b (acA cs r 3 x).2 → RLh M1 b (ansH H r 3 (acA cs r 3 x).1) → R (iZ (acA cs r 3 x).1) M1) : pX9_seedKept N K M b (iZ x) R := by
  unfold pX9_seedKept
  refine ak_gen (kind := 3) (P := fun M1 Q => (EX9_setsSeed M1 b (iZ x)) ∧ ∀ v1 : Int32, v1 = (fX9_setsSeed M1 b (iZ x)) → ∀ M2 : gM, M2 = (mX9_setsSeed M1 b (iZ x)) → Q v1 M2) hN hV hR hH (fun M1 Q R1 hQ => ?_) hE
  obtain ⟨t1, t2, t3, t4⟩ := seed_9 (x := x) hV R1 x1 x2
  refine ⟨t1, fun v1 hv1 M2 h2 => ?_⟩
  rw [← h2] at t3 t4
  rw [hv1, t2]
  exact hQ M2 (fun c j q1 _ _ => t4.at (by omega) j) t3
theorem kB_9 {M : gM} {R : Int32 → gM → Prop} (hN : 4000 ≤ N) (hK : 500 ≤ K) (hV : Vk r) (hm : Vm r) (hR : Rr M b r) (hF : FL r cs) (hH : RLh M b H) (hE : ∀ M1, Fak b M M1 → Rr M1 b (acA cs r 4 x).2 → RLh M1 b (ansH H r 4 (acA cs r 4 x).1) → R (iZ (acA cs r 4 x).1) M1) : pX9_buildsKept N K M b R := by
  unfold pX9_buildsKept
  exact ak_gen (kind := 4) (P := fun M1 Q => pX9_builds N K M1 b Q) hN hV hR hH (fun M1 Q R1 hQ => bd_9 (by omega) hK hV hm R1 hF (fun M2 f2 R2 => hQ M2 f2 R2)) hE
/-- good, or refused -/
theorem gO_9 {M : gM} {R : Int32 → gM → Prop} {a : Int} (hf : Rfm M b fr) (a1 : -2147483648 ≤ a) (a2 : a < 2147483648) (hn : a < 0 → isR a) (hE : ∀ M1, (∀ c j, (c ≠ b ∨ j ≠ 0) → c ≠ b + 1 → g_mi M1 c j = g_mi M c j) → g_mi M1 b 0 = iZ (if 0 ≤ a then 0 else a) → Rfm M1 b (if 0 ≤ a then fr else refU fr a) → R (iZ a) M1) : pX9_goodOr N K M b (iZ a) R := by
  unfold pX9_goodOr
  have c1 : (0 ≤ iZ a) = (0 ≤ a) := by rw [iZ_l0, iZ_le (by omega) (by omega) (by omega) (by omega)]
  rw [c1]
  refine ⟨fun z => ?_, fun z => ?_⟩
  · rw [if_pos z, if_pos z] at hE
    unfold pX9_good0
    intro M1 h1
    obtain ⟨b1, b2, b3⟩ := wi_k h1
    refine hE M1 (fun c j q1 q2 => ?_) (by rw [b3]; rfl) (by unfold Rfm at hf ⊢; rw [b1 (b + 1) (by omega)]; exact hf)
    by_cases q : c = b
    · subst q; exact b2 j (by omega)
    · rw [b1 c q]
  · rw [if_neg z, if_neg z] at hE
    exact rf_9 (hn (by omega)) hf hE
end CH9
