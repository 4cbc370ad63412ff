/-! Calls: terms, force, seen, forget, end, count. -/
def tix (i : Nat) : Nat := if i = 0 then 187 else if i = 1 then 200 else 201
def tmost (i : Nat) : Int := if i = 0 then 999 else if i = 1 then 10 else 9
theorem Vk.of187 {r r2 : Nat → Int} (hV : Vk r) (h : ∀ i, i ≤ 32 → r2 i = r i) (h0 : 0 ≤ r2 187) (h1 : r2 187 ≤ 999) : Vk r2 := hV.up (fun i hi => h i (by omega)) (by rw [h 31 (by omega)]; exact hV.2.2.2.2.1) (by rw [h 31 (by omega)]; exact hV.2.2.2.2.2.1) (by rw [h 32 (by omega)]; exact hV.2.2.2.2.2.2.1) (by rw [h 32 (by omega)]; exact hV.2.2.2.2.2.2.2.1) h0 h1
theorem Vr.tm {r : Nat → Int} {i : Nat} {v : Int} (h : Vr r) (hi : i < 3) (v0 : 0 ≤ v) (v1 : v ≤ tmost i) : Vr (va_up r (tix i) v) := by
  have hk := h.k
  have t0 := hk.2.2.2.2.2.2.2.2.1
  have t1 := hk.2.2.2.2.2.2.2.2.2
  have nb := h.n
  have T : ∀ k, (k = 187 ∨ k = 200 ∨ k = 201) → Vt (va_up r k v) := fun k hk2 => h.t.cg (fun j h1 h2 => up_ne (by omega))
  have S : ∀ k, (k = 187 ∨ k = 200 ∨ k = 201) → ∀ j : Nat, (j : Int) < va_up r k v 202 → (0 ≤ va_up r k v (188 + 2 * j) ∧ va_up r k v (188 + 2 * j) ≤ 59) ∧ 0 ≤ va_up r k v (188 + 2 * j + 1) ∧ va_up r k v (188 + 2 * j + 1) ≤ 1 := fun k hk2 j hj => by
    rw [up_ne (by omega)] at hj
    rw [up_ne (by omega), up_ne (by omega)]; exact h.sn j hj
  rcases (by omega : i = 0 ∨ i = 1 ∨ i = 2) with e | e | e <;> subst e
  · have v2 : v ≤ 999 := v1
    show Vr (va_up r 187 v)
    exact ⟨hk.of187 (fun j hj => up_ne (by omega)) (by rw [up_eq]; exact v0) (by rw [up_eq]; exact v2), T 187 (by omega), by rw [up_ne (by omega)]; exact h.s, by rw [up_ne (by omega)]; exact h.md, by rw [up_ne (by omega)]; exact h.n, S 187 (by omega), by rw [up_ne (by omega)]; exact h.l, by rw [up_ne (by omega), up_ne (by omega)]; exact h.f⟩
  · have v2 : v ≤ 10 := v1
    show Vr (va_up r 200 v)
    exact ⟨hk.of187 (fun j hj => up_ne (by omega)) (by rw [up_ne (by omega)]; exact t0) (by rw [up_ne (by omega)]; exact t1), T 200 (by omega), by rw [up_eq]; exact ⟨v0, v2⟩, by rw [up_ne (by omega)]; exact h.md, by rw [up_ne (by omega)]; exact h.n, S 200 (by omega), by rw [up_ne (by omega)]; exact h.l, by rw [up_ne (by omega), up_ne (by omega)]; exact h.f⟩
  · have v2 : v ≤ 9 := v1
    show Vr (va_up r 201 v)
    exact ⟨hk.of187 (fun j hj => up_ne (by omega)) (by rw [up_ne (by omega)]; exact t0) (by rw [up_ne (by omega)]; exact t1), T 201 (by omega), by rw [up_ne (by omega)]; exact h.s, by rw [up_eq]; exact ⟨v0, v2⟩, by rw [up_ne (by omega)]; exact h.n, S 201 (by omega), by rw [up_ne (by omega)]; exact h.l, by rw [up_ne (by omega), up_ne (by omega)]; exact h.f⟩
theorem RS.tm {M M1 : gM} {st i : Nat} {r : Nat → Int} {v : Int} (hv : Vr r) (h : RS M st r) (hi : i < 3) (h1 : M1 = g_wi M (st + 2) i (iZ v)) : RS M1 st (va_up r (tix i) v) := by
  obtain ⟨a1, a2, a3⟩ := wi_k h1
  obtain ⟨⟨b1, b2, b3, b4, b5⟩, c1, c2, c3⟩ := h
  have v30 := hv.k.2.1
  have tm : ∀ j, j < 3 → g_mi M (st + 2) j = iZ (r (tix j)) := fun j hj => by
    rcases (by omega : j = 0 ∨ j = 1 ∨ j = 2) with e | e | e <;> subst e
    · exact b5
    · exact c1
    · exact c2
  have te : ∀ j, j < 3 → g_mi M1 (st + 2) j = iZ (va_up r (tix i) v (tix j)) := fun j hj => by
    by_cases c : j = i
    · subst c; rw [a3, up_eq]
    · rw [a2 j c, tm j hj, up_ne]
      unfold tix
      intro q
      split at q <;> split at q <;> (try split at q) <;> (try split at q) <;> omega
  have ti : tix i = 187 ∨ tix i = 200 ∨ tix i = 201 := by
    unfold tix
    split
    · exact Or.inl rfl
    · split
      · exact Or.inr (Or.inl rfl)
      · exact Or.inr (Or.inr rfl)
  refine ⟨⟨?_, fun j hj => ?_, ?_, ?_, te 0 (by omega)⟩, te 1 (by omega), te 2 (by omega), Rt.cg hv.t (fun j h1 h2 => up_ne (by omega)) ?_⟩
  · rw [a1 st (by omega), up_ne (by omega)]; exact b1
  · rw [up_ne (by omega)] at hj
    rw [a1 _ (by omega), up_ne (by omega)]; exact b2 j hj
  · rw [a1 st (by omega), up_ne (by omega)]; exact b3
  · rw [a1 st (by omega), up_ne (by omega)]; exact b4
  · unfold Rt at c3 ⊢
    rw [a1 _ (by omega), a1 _ (by omega), a1 _ (by omega), a1 _ (by omega)]
    exact c3
theorem lo3 {x : Int} {n : Int} (x1 : -2147483648 ≤ x) (x2 : x < 2147483648) (n0 : 0 ≤ n) (n1 : n < 2147483648) : fX9_lies (iZ x) 0 (iZ n) = iB (decide (0 ≤ x ∧ x ≤ n)) := by rw [iZ_l0, lies_9 x1 x2 (by omega) (by omega) (by omega) n1]
section TMC
variable {N K A : Nat} {r : Nat → Int} {lw : LWs} {H : List ((Nat → Int) × Int)} {im : Nat → Option (Nat → Int)} {ilw : Nat → LWs} {bt : Nat → Int} {ln : Nat} {fr dr ms : Nat → Int32} {P9 : gM → (Int32 → gM → Prop) → Prop}
theorem nil_H {M : gM} {h f : Nat} {H : List ((Nat → Int) × Int)} (hH : RHf M h f H) {M1 : gM} (h1 : M1 = g_wi M h 3 0) : RHf M1 h f [] := by
  obtain ⟨a1, a2, a3⟩ := wi_k h1
  exact ⟨hH.1, by simp, by rw [a2 2 (by omega)]; exact hH.2.2.1, a3, fun j e he => (by cases he)⟩
theorem tm_acc {M : gM} {i : Nat} {v : Int} (hp : PVs r lw H im ilw) (hc : IC M A r lw H im ilw bt ln fr dr ms) (hi : i < 3) (v0 : 0 ≤ v) (v1 : v ≤ tmost i) (h9 : ∀ M2, IR M2 (A + 329) r H im bt ln fr dr ms → ∀ R : Int32 → gM → Prop, (∀ M3, (∀ c j, c ≠ A + 329 + 2 → (c ≠ A + 329 ∨ (j ≠ 0 ∧ j ≠ 38)) → g_mi M3 c j = g_mi M2 c j) → Rr M3 (A + 329) (va_up r (tix i) v) → g_mi M3 (A + 329) 0 = 0 → g_mi M3 (A + 329) 38 = 0 → R (iZ (r (tix i))) M3) → P9 M2 R) : ∀ M2 : gM, M2 = g_wi M (A + 1 + 1 + 2) i (iZ v) → pX0_clear N K M2 (A + 13) (fun M3 => pX8_accept N K M3 A (g_mi M (A + 1 + 1 + 2) i) (fun v M4 => OG A P9 M r H im bt ln fr dr ms v M4)) := by
  intro M2 h2
  unfold pX0_clear pX8_accept
  intro M3 h3 M4 h4
  have hv := hp.1
  obtain ⟨f, hf⟩ := hc.2.2.2.1
  obtain ⟨a1, a2, a3⟩ := wi_k h2
  obtain ⟨b1, b2, b3⟩ := wi_k h3
  obtain ⟨d1, d2, d3⟩ := wi_k h4
  have S2 := RS.tm hv hc.rs hi h2
  have ti : tix i = 187 ∨ tix i = 200 ∨ tix i = 201 := by
    unfold tix
    split
    · exact Or.inl rfl
    · split
      · exact Or.inr (Or.inl rfl)
      · exact Or.inr (Or.inr rfl)
  have an : g_mi M (A + 1 + 1 + 2) i = iZ (r (tix i)) := by
    rcases (by omega : i = 0 ∨ i = 1 ∨ i = 2) with e | e | e <;> subst e
    · exact hc.rs.1.2.2.2.2
    · exact hc.rs.2.1
    · exact hc.rs.2.2.1
  rw [an]
  have kk : ∀ c, c ≠ A → c ≠ A + 13 → c ≠ A + 4 → g_mi M4 c = g_mi M c := fun c q1 q2 q3 => by rw [d1 c q1, b1 c q2, a1 c (by omega)]
  have vr := hv.tm hi v0 v1
  have hp2 : PVs (va_up r (tix i) v) lw [] im ilw := ⟨vr, VL.up hv hp.2.1 (fun j h1 _ => up_ne (by omega)), fun e he => (by cases he), hp.2.2.2⟩
  refine ⟨fun c q1 q2 => kk c (by omega) (by omega) (by omega), va_up r (tix i) v, lw, [], im, ilw, bt, ln, fr, dr, va_up ms 0 0, hp2, fun s => ?_, fun M5 hr => ?_⟩
  · obtain ⟨w1, w2, w3, w4, w5, w6⟩ := hc.2.1
    have kA : ∀ j, j ≠ 16 → g_mi M4 A j = g_mi M A j := fun j q => by rw [d2 j q, b1 A (by omega), a1 A (by omega)]
    have hu : ∀ k, k ≠ 187 → k ≠ 200 → k ≠ 201 → va_up r (tix i) v k = r k := fun k q1 q2 q3 => up_ne (by omega)
    have nn := hv.n
    refine hc.mix s (fun c q => kk c (by omega) (by omega) (by omega)) ⟨S2.keep (fun c q1 q2 => by rw [d1 c (by omega), b1 c (by omega)]), ?_, ?_, ?_, fun j hj => ?_, fun t ht => ?_⟩ ⟨f, (nil_H (hf.keep (fun c q1 q2 => a1 c (by omega))) h3).keep (fun c q1 q2 => d1 c (by omega))⟩ (hc.2.2.2.2.1.keep (by rw [kk _ (by omega) (by omega) (by omega)])) (hc.2.2.2.2.2.2.1.kp (by rw [kk _ (by omega) (by omega) (by omega)]) (kk _ (by omega) (by omega) (by omega))) (hc.2.2.2.2.2.2.2.1.kp (kk _ (by omega) (by omega) (by omega))) (hc.2.2.2.2.2.2.2.2.1.kp (kk _ (by omega) (by omega) (by omega))) ⟨d3, ?_, ?_, ?_⟩
    · rw [kk _ (by omega) (by omega) (by omega), hu _ (by omega) (by omega) (by omega)]; exact w2
    · rw [kk _ (by omega) (by omega) (by omega), hu _ (by omega) (by omega) (by omega)]; exact w3
    · rw [kk _ (by omega) (by omega) (by omega), hu _ (by omega) (by omega) (by omega)]; exact w4
    · rw [hu _ (by omega) (by omega) (by omega)] at hj
      rw [kk _ (by omega) (by omega) (by omega), kk _ (by omega) (by omega) (by omega), hu _ (by omega) (by omega) (by omega), hu _ (by omega) (by omega) (by omega)]; exact w5 j hj
    · rw [hu _ (by omega) (by omega) (by omega)] at ht
      obtain ⟨x, x1, x2, x3⟩ := w6 t ht
      exact ⟨x, x1, by rw [s.2.1]; exact x2, x3.keep s (fun c q1 q2 => kk c (by omega) (by omega) (by omega))⟩
    · rw [kk _ (by omega) (by omega) (by omega)]; exact hc.2.2.2.2.2.2.2.2.2.2.1
    · rw [kA 15 (by omega)]; exact hc.2.2.2.2.2.2.2.2.2.2.2.1
    · rw [kA 14 (by omega)]; exact hc.2.2.2.2.2.2.2.2.2.2.2.2
  · refine h9 M5 hr _ (fun M6 k6 R6 s6 u6 => ⟨rfl, fun c q => by funext j; exact k6 c j (by omega) (by omega), fun s => ?_⟩)
    have kc : ∀ c, c ≠ A + 329 → c ≠ A + 329 + 2 → g_mi M6 c = g_mi M5 c := fun c q1 q2 => by funext j; exact k6 c j q2 (Or.inl q1)
    have k0 : ∀ j, j ≠ 0 → j ≠ 38 → g_mi M6 (A + 329) j = g_mi M5 (A + 329) j := fun j q1 q2 => k6 _ j (by omega) (Or.inr ⟨q1, q2⟩)
    refine hr.mix s (fun c q => kc c (by omega) (by omega)) R6 ⟨by simp, u6, fun j e he => (by cases he)⟩ (hr.2.2.2.2.1.1.kp (kc _ (by omega) (by omega))) (by rw [k0 _ (by omega) (by omega)]; exact hr.2.2.2.2.1.2.1) (hr.2.2.2.2.2.1.kp (kc _ (by omega) (by omega))) (hr.2.2.2.2.2.2.1.kp (k0 _ (by omega) (by omega)) (kc _ (by omega) (by omega))) ⟨s6, ?_, ?_, ?_⟩
    · rw [k0 _ (by omega) (by omega)]; exact hr.2.2.2.2.2.2.2.2.1
    · rw [k0 _ (by omega) (by omega)]; exact hr.2.2.2.2.2.2.2.2.2.1
    · rw [k0 _ (by omega) (by omega)]; exact hr.2.2.2.2.2.2.2.2.2.2
end TMC
section OB4
variable {X : gX} {A : Nat} {x1 x2 : Int32}
theorem ob_terms : Ob X 1311 0 0 kX8_terms kX9_terms (INV A) A (A + 329) [.int x1, .int x2] := by
  obtain ⟨x, rfl, b1, b2⟩ := i32x x1
  obtain ⟨y, rfl, c1, c2⟩ := i32x x2
  refine ob_og (P8 := fun M R => pX8_terms 20000 1290 M A (iZ x) (iZ y) R) (P9 := fun M R => pX9_terms 20000 1290 M (A + 329) (iZ x) (iZ y) R) (fun M R Q s hh hR => uX8_terms (d := 1310) s hh (fun v M1 j h => hR v M1 j.l h)) (fun M R Q s hh hR => uX9_terms (d := 1309) s hh (fun v M1 j h => hR v M1 j.l h)) (fun M r lw H im ilw bt ln fr dr ms hp hc => ?_)
  have e0 : (iZ x = 0) = (x = 0) := by rw [iZ_l0, iZ_eq (by omega) (by omega) (by omega) (by omega)]
  have e1 : (iZ x = 1) = (x = 1) := by rw [iZ_l1, iZ_eq (by omega) (by omega) (by omega) (by omega)]
  have e2 : (iZ x = 2) = (x = 2) := by rw [iZ_l2, iZ_eq (by omega) (by omega) (by omega) (by omega)]
  have g0 : (iZ y < 0) = (y < 0) := by rw [iZ_l0, iZ_lt (by omega) (by omega) (by omega) (by omega)]
  have gm : (iZ y ≤ -1) = (y ≤ -1) := by rw [iZ_n1, iZ_le (by omega) (by omega) (by omega) (by omega)]
  have g9 : (iZ y ≤ 9) = (y ≤ 9) := by rw [iZ_l9, iZ_le (by omega) (by omega) (by omega) (by omega)]
  have g10 : (iZ y ≤ 10) = (y ≤ 10) := by rw [iZ_l10, iZ_le (by omega) (by omega) (by omega) (by omega)]
  have g999 : (iZ y ≤ 999) = (y ≤ 999) := by rw [iZ_l999, iZ_le (by omega) (by omega) (by omega) (by omega)]
  have tf : fX9_isTerm (iZ x) (iZ y) = iB (decide ((x = 0 ∧ 0 ≤ y ∧ y ≤ 999) ∨ (x = 1 ∧ 0 ≤ y ∧ y ≤ 10) ∨ (x = 2 ∧ 0 ≤ y ∧ y ≤ 9))) := by
    unfold fX9_isTerm
    rw [iZ_l999, lo3 c1 c2 (by omega) (by omega), iZ_l10, lo3 c1 c2 (by omega) (by omega), iZ_l9, lo3 c1 c2 (by omega) (by omega)]
    by_cases h0 : x = 0
    · rw [if_pos (by rw [e0]; exact h0)]
      congr 1
      exact decide_eq_decide.mpr (by omega)
    · rw [if_neg (by rw [e0]; exact h0)]
      by_cases h1 : x = 1
      · rw [if_pos (by rw [e1]; exact h1)]
        congr 1
        exact decide_eq_decide.mpr (by omega)
      · rw [if_neg (by rw [e1]; exact h1)]
        by_cases h2 : x = 2
        · rw [if_pos (by rw [e2]; exact h2)]
          congr 1
          exact decide_eq_decide.mpr (by omega)
        · rw [if_neg (by rw [e2]; exact h2), decide_eq_false (by omega)]
          rfl
  have te : ∀ M2, EX9_isTerm M2 (iZ x) (iZ y) := fun M2 => by
    unfold EX9_isTerm
    rw [iZ_l999, lo3 c1 c2 (by omega) (by omega), iZ_l10, lo3 c1 c2 (by omega) (by omega), iZ_l9, lo3 c1 c2 (by omega) (by omega)]
    exact ⟨fun _ => iB_o, fun _ _ => iB_o, fun _ _ _ => iB_o⟩
  have ref : ¬ ((x = 0 ∧ 0 ≤ y ∧ y ≤ 999) ∨ (x = 1 ∧ 0 ≤ y ∧ y ≤ 10) ∨ (x = 2 ∧ 0 ≤ y ∧ y ≤ 9)) → pX8_refuse 20000 1290 M A (-1) (fun v M1 => OG A (fun M R => pX9_terms 20000 1290 M (A + 329) (iZ x) (iZ y) R) M r H im bt ln fr dr ms v M1) := fun hn => by
    rw [iZ_n1]
    refine OG.rf (Or.inl rfl) hp hc (fun M2 hr R hR => ?_)
    unfold pX9_terms
    refine ⟨te M2, fun v hv => ?_⟩
    rw [tf, decide_eq_false hn] at hv
    subst hv
    exact ⟨fun z => absurd rfl z, fun _ => by rw [iZ_n1]; exact IR.rf (Or.inl rfl) hr hR⟩
  have acc : ∀ i : Nat, i < 3 → x = i → 0 ≤ y → y ≤ tmost i → (vp_in (iZ x) 3) ∧ ∀ M2 : gM, M2 = (g_wi M (((A + 1) + 1) + 2) (iZ x).toNatClampNeg (iZ y)) → pX0_clear 20000 1290 M2 (A + 13) (fun M3 => pX8_accept 20000 1290 M3 A (g_mi M (((A + 1) + 1) + 2) (iZ x).toNatClampNeg) (fun v2 M4 => OG A (fun M R => pX9_terms 20000 1290 M (A + 329) (iZ x) (iZ y) R) M r H im bt ln fr dr ms v2 M4)) := fun i hi hx y0 y1 => by
    refine ⟨iZ_in (by omega) (by omega) (by omega), ?_⟩
    have ex : (iZ x).toNatClampNeg = i := by rw [hx, iZ_cl (by omega)]
    rw [ex]
    refine tm_acc hp hc hi y0 y1 (fun M2 hr R hR => ?_)
    unfold pX9_terms
    refine ⟨te M2, fun v hv => ?_⟩
    have y2 : (x = 0 ∧ 0 ≤ y ∧ y ≤ 999) ∨ (x = 1 ∧ 0 ≤ y ∧ y ≤ 10) ∨ (x = 2 ∧ 0 ≤ y ∧ y ≤ 9) := by
      rcases (by omega : i = 0 ∨ i = 1 ∨ i = 2) with e | e | e <;> subst e
      · have : y ≤ 999 := y1
        omega
      · have : y ≤ 10 := y1
        omega
      · have : y ≤ 9 := y1
        omega
    rw [tf, decide_eq_true y2] at hv
    subst hv
    have ta : fX9_termAt (iZ x) = iZ ((tix i : Nat) : Int) := by
      rcases (by omega : i = 0 ∨ i = 1 ∨ i = 2) with e | e | e <;> subst e <;> rw [hx] <;> rfl
    have tb : tix i < 202 := by unfold tix; split <;> (try split) <;> omega
    refine ⟨fun _ v2 hv2 => ⟨?_, fun v3 hv3 => ⟨?_, fun M3 h3 => ?_⟩⟩, fun z => absurd z (by decide)⟩
    · rw [hv2, ta]; exact iZ_in (by omega) (by omega) (by omega)
    · rw [hv3, ta]; exact iZ_in (by omega) (by omega) (by omega)
    · rw [hv3, ta, iZ_cl (by omega)] at h3
      rw [hv2, ta, iZ_cl (by omega), hr.2.1 _ (by omega)]
      unfold pX9_settled pX9_good0
      intro M4 h4 M5 h5
      obtain ⟨p1, p2, p3⟩ := wi_k h3
      obtain ⟨q1, q2, q3⟩ := wi_k h4
      obtain ⟨s1, s2, s3⟩ := wi_k h5
      refine hR M5 (fun c j w1 w2 => ?_) (Rr.kp (M := M3) (by rw [h3]; exact hr.2.1.up) (by rw [s1 _ (by omega), q1 _ (by omega)])) s3 (by rw [s2 38 (by omega), q3])
      by_cases w : c = A + 329
      · subst w; rw [s2 j (by omega), q2 j (by omega), p1 _ (by omega)]
      · rw [s1 c w, q1 c w, p1 c w1]
  unfold pX8_terms
  rw [e0, e1, e2, g0, gm, g9, g10, g999]
  refine ⟨fun z0 => ⟨fun z1 => ⟨fun z2 => ⟨fun w => ref (by omega), fun w => ⟨fun w2 => by omega, fun _ => ref (by omega)⟩⟩, fun z2 => ⟨fun w => ref (by omega), fun w => ⟨fun w2 => acc 2 (by omega) (by omega) (by omega) w2, fun w2 => ref (by omega)⟩⟩⟩, fun z1 => ⟨fun w => ref (by omega), fun w => ⟨fun w2 => acc 1 (by omega) (by omega) (by omega) w2, fun w2 => ref (by omega)⟩⟩⟩, fun z0 => ⟨fun w => ref (by omega), fun w => ⟨fun w2 => acc 0 (by omega) (by omega) (by omega) w2, fun w2 => ref (by omega)⟩⟩⟩
end OB4
