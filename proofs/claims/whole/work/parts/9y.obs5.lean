/-! Calls: force, seen, forget, end, count. -/
section AC8
variable {A b : Nat} {r r2 : Nat → Int} {lw : LWs} {H : List ((Nat → Int) × Int)} {im : Nat → Option (Nat → Int)} {ilw : Nat → LWs} {bt : Nat → Int} {ln : Nat} {fr dr ms : Nat → Int32}
/-- the class: the Whole alone has changed, accepted -/
theorem IC.wh {M M1 : gM} {ms2 : Nat → Int32} (hc : IC M A r lw H im ilw bt ln fr dr ms) (hs : Sl M M1) (k : ∀ c, c ≠ A → c ≠ A + 1 → c ≠ A + 9 → c ≠ A + 10 → g_mi M1 c = g_mi M c) (hW : CW M1 (A + 353) (A + 1) r2 lw) (hM : cM M1 A ms2) : IC M1 A r2 lw H im ilw bt ln fr dr ms2 :=
  hc.mix hs (fun c q => k c (by omega) (by omega) (by omega) (by omega)) hW (hc.2.2.2.1.keep (fun c q1 q2 => k c (by omega) (by omega) (by omega) (by omega))) (hc.2.2.2.2.1.keep (by rw [k _ (by omega) (by omega) (by omega) (by omega)])) (hc.2.2.2.2.2.2.1.kp (by rw [k _ (by omega) (by omega) (by omega) (by omega)]) (k _ (by omega) (by omega) (by omega) (by omega))) (hc.2.2.2.2.2.2.2.1.kp (k _ (by omega) (by omega) (by omega) (by omega))) (hc.2.2.2.2.2.2.2.2.1.kp (k _ (by omega) (by omega) (by omega) (by omega))) hM
/-- the reference: its row and status alone -/
theorem IR.row {M M1 : gM} {ms2 : Nat → Int32} (hr : IR M b r H im bt ln fr dr ms) (hs : Sl M M1) (k : ∀ c j, c ≠ b + 2 → (c ≠ b ∨ j ≠ 0) → g_mi M1 c j = g_mi M c j) (hR : Rr M1 b r2) (h0 : g_mi M1 b 0 = ms2 0) (hm : ms2 1 = ms 1 ∧ ms2 2 = ms 2 ∧ ms2 3 = ms 3) : IR M1 b r2 H im bt ln fr dr ms2 := by
  have kc : ∀ c, c ≠ b → c ≠ b + 2 → g_mi M1 c = g_mi M c := fun c q1 q2 => by funext j; exact k c j q2 (Or.inl q1)
  have k0 : ∀ j, j ≠ 0 → g_mi M1 b j = g_mi M b j := fun j q => k b j (by omega) (Or.inr q)
  refine hr.mix hs (fun c q => kc c (by omega) (by omega)) hR (hr.2.2.1.keep (k0 _ (by omega)) (kc _ (by omega) (by omega))) (hr.2.2.2.2.1.1.kp (kc _ (by omega) (by omega))) (by rw [k0 _ (by omega)]; exact hr.2.2.2.2.1.2.1) (hr.2.2.2.2.2.1.kp (kc _ (by omega) (by omega))) (hr.2.2.2.2.2.2.1.kp (k0 _ (by omega)) (kc _ (by omega) (by omega))) ⟨h0, ?_, ?_, ?_⟩
  · rw [k0 _ (by omega), hm.1]; exact hr.2.2.2.2.2.2.2.2.1
  · rw [k0 _ (by omega), hm.2.1]; exact hr.2.2.2.2.2.2.2.2.2.1
  · rw [k0 _ (by omega), hm.2.2]; exact hr.2.2.2.2.2.2.2.2.2.2
/-- a row that differs from 188 to 204 alone, told anew -/
theorem Vr.mid {r r2 : Nat → Int} (h : Vr r) (e : ∀ i, i < 188 → r2 i = r i) : Vk r2 ∧ Vt r2 := by
  have hk := h.k
  refine ⟨hk.of187 (fun i hi => e i (by omega)) ?_ ?_, h.t.cg (fun i h1 h2 => e i (by omega))⟩
  · rw [e 187 (by omega)]; exact hk.2.2.2.2.2.2.2.2.1
  · rw [e 187 (by omega)]; exact hk.2.2.2.2.2.2.2.2.2
end AC8
section OB5
variable {X : gX} {A : Nat} {x1 x2 : Int32}
theorem ob_force : Ob X 1311 0 0 kX8_force kX9_force (INV A) A (A + 329) [.int x1] := by
  obtain ⟨x, rfl, b1, b2⟩ := i32x x1
  refine ob_og (P8 := fun M R => pX8_force 20000 1290 M A (iZ x) R) (P9 := fun M R => pX9_force 20000 1290 M (A + 329) (iZ x) R) (fun M R Q s hh hR => uX8_force (d := 1310) s hh (fun v M1 j h => hR v M1 j.l h)) (fun M R Q s hh hR => uX9_force (d := 1309) s hh (fun v M1 j h => hR v M1 j.l h)) (fun M r lw H im ilw bt ln fr dr ms hp hc => ?_)
  have hv := hp.1
  have lb := hv.l
  have fb := hv.f
  obtain ⟨w1, w2, w3, w4, w5, w6⟩ := hc.2.1
  have isl : ∀ M2, Rr M2 (A + 329) r → fX9_isLaw M2 (A + 329) (iZ x) = iB (decide (-1 ≤ x ∧ x ≤ r 203 - 1)) := fun M2 hR => by
    unfold fX9_isLaw
    rw [hR 203 (by omega), iZ_l1, iZ_sub, iZ_neg, lies_9 b1 b2 (by omega) (by omega) (by omega) (by omega)]
  have isE : ∀ M2, Rr M2 (A + 329) r → EX9_isLaw M2 (A + 329) (iZ x) := fun M2 hR => by
    have h := isl M2 hR
    unfold fX9_isLaw at h
    unfold EX9_isLaw
    rw [h]
    exact iB_o
  have ref : ¬ (-1 ≤ x ∧ x ≤ r 203 - 1) → pX8_refuse 20000 1290 M A (-2) (fun v M1 => OG A (fun M R => pX9_force 20000 1290 M (A + 329) (iZ x) R) M r H im bt ln fr dr ms v M1) := fun hn => by
    have e2 : (-2 : Int32) = iZ (-2) := by rw [iZ_l2, iZ_neg]
    rw [e2]
    refine OG.rf (Or.inr (Or.inl rfl)) hp hc (fun M2 hr R hR => ?_)
    unfold pX9_force
    refine ⟨isE M2 hr.2.1, fun v hv => ?_⟩
    rw [isl M2 hr.2.1, decide_eq_false hn] at hv
    subst hv
    exact ⟨fun z => absurd rfl z, fun _ => by rw [e2]; exact IR.rf (Or.inr (Or.inl rfl)) hr hR⟩
  unfold pX8_force
  rw [w3, iZ_n1, iZ_lt (by omega) (by omega) (by omega) (by omega), iZ_lt (by omega) (by omega) (by omega) (by omega)]
  refine ⟨fun z => ref (by omega), fun z => ⟨fun z2 M2 h2 => ?_, fun z2 => ref (by omega)⟩⟩
  unfold pX8_accept
  intro M3 h3
  obtain ⟨a1, a2, a3⟩ := wi_k h2
  obtain ⟨d1, d2, d3⟩ := wi_k h3
  rw [w4]
  have kk : ∀ c, c ≠ A → c ≠ A + 1 → g_mi M3 c = g_mi M c := fun c q1 q2 => by rw [d1 c q1, a1 c q2]
  have hu : ∀ k, k ≠ 204 → va_up r 204 x k = r k := fun k q => up_ne q
  have md := hv.mid (r2 := va_up r 204 x) (fun i hi => hu i (by omega))
  have hp2 : PVs (va_up r 204 x) lw H im ilw := by
    refine ⟨⟨md.1, md.2, by rw [hu _ (by omega)]; exact hv.s, by rw [hu _ (by omega)]; exact hv.md, by rw [hu _ (by omega)]; exact hv.n, fun i hi => ?_, by rw [hu _ (by omega)]; exact hv.l, by rw [up_eq, hu _ (by omega)]; omega⟩, fun t ht => ?_, fun e he => ?_, hp.2.2.2⟩
    · have := hv.n
      rw [hu _ (by omega)] at hi
      rw [hu _ (by omega), hu _ (by omega)]; exact hv.sn i hi
    · rw [hu _ (by omega)] at ht
      exact ⟨(hp.2.1 t ht).1.up, (hp.2.1 t ht).2⟩
    · rw [hu _ (by omega), hu _ (by omega)]; exact hp.2.2.1 e he
  refine ⟨fun c q1 q2 => kk c (by omega) (by omega), va_up r 204 x, lw, H, im, ilw, bt, ln, fr, dr, va_up ms 0 0, hp2, fun s => ?_, fun M5 hr => ?_⟩
  · refine hc.wh s (fun c q1 q2 q3 q4 => kk c q1 q2) ⟨?_, ?_, ?_, ?_, fun j hj => ?_, fun t ht => ?_⟩ ⟨d3, ?_, ?_, ?_⟩
    · exact (w1.keep (fun c q1 q2 => kk c (by omega) (by omega))).cg hv.k hv.t (fun i hi => hu i (by omega)) (hu _ (by omega)) (hu _ (by omega))
    · rw [d1 _ (by omega), a2 4 (by omega), hu _ (by omega)]; exact w2
    · rw [d1 _ (by omega), a2 5 (by omega), hu _ (by omega)]; exact w3
    · rw [d1 _ (by omega), a3, up_eq]
    · have := hv.n
      rw [hu _ (by omega)] at hj
      rw [kk _ (by omega) (by omega), kk _ (by omega) (by omega), hu _ (by omega), hu _ (by omega)]; exact w5 j hj
    · rw [hu _ (by omega)] at ht
      obtain ⟨y, y1, y2, y3⟩ := w6 t ht
      exact ⟨y, y1, by rw [s.2.1]; exact y2, y3.keep s (fun c q1 q2 => kk c (by omega) (by omega))⟩
    · rw [kk _ (by omega) (by omega)]; exact hc.2.2.2.2.2.2.2.2.2.2.1
    · rw [d2 15 (by omega), a1 _ (by omega)]; exact hc.2.2.2.2.2.2.2.2.2.2.2.1
    · rw [d2 14 (by omega), a1 _ (by omega)]; exact hc.2.2.2.2.2.2.2.2.2.2.2.2
  · show pX9_force 20000 1290 M5 (A + 329) (iZ x) _
    unfold pX9_force
    refine ⟨isE M5 hr.2.1, fun v hv2 => ?_⟩
    rw [isl M5 hr.2.1, decide_eq_true (by omega)] at hv2
    subst hv2
    refine ⟨fun _ M6 h6 => ?_, fun z => absurd z (by decide)⟩
    rw [hr.2.1 204 (by omega)]
    unfold pX9_good0
    intro M7 h7
    obtain ⟨p1, p2, p3⟩ := wi_k h6
    obtain ⟨q1, q2, q3⟩ := wi_k h7
    have kf : ∀ c j, c ≠ A + 329 + 2 → (c ≠ A + 329 ∨ j ≠ 0) → g_mi M7 c j = g_mi M5 c j := fun c j u1 u2 => by
      by_cases w : c = A + 329
      · subst w; rw [q2 j (by omega), p1 _ (by omega)]
      · rw [q1 c w, p1 c u1]
    exact ⟨rfl, fun c q => by funext j; exact kf c j (by omega) (by omega), fun s => hr.row s kf (Rr.kp (M := M6) (by rw [h6]; exact hr.2.1.up) (q1 _ (by omega))) q3 ⟨rfl, rfl, rfl⟩⟩
theorem ob_forget : Ob X 1311 0 0 kX8_forget kX9_forget (INV A) A (A + 329) [] := by
  refine ob_og (P8 := fun M R => pX8_forget 20000 1290 M A R) (P9 := fun M R => pX9_forget 20000 1290 M (A + 329) R) (fun M R Q s hh hR => uX8_forget (d := 1311) s hh (fun v M1 j h => hR v M1 j.l h)) (fun M R Q s hh hR => uX9_forget (d := 1311) s hh (fun v M1 j h => hR v M1 j.l h)) (fun M r lw H im ilw bt ln fr dr ms hp hc => ?_)
  have hv := hp.1
  obtain ⟨w1, w2, w3, w4, w5, w6⟩ := hc.2.1
  unfold pX8_forget
  intro M1 h1
  rw [w2]
  obtain ⟨a1, a2, a3⟩ := wi_k h1
  have hu : ∀ k, k ≠ 202 → va_up r 202 0 k = r k := fun k q => up_ne q
  have md := hv.mid (r2 := va_up r 202 0) (fun i hi => hu i (by omega))
  have hp2 : PVs (va_up r 202 0) lw H im ilw := by
    refine ⟨⟨md.1, md.2, by rw [hu _ (by omega)]; exact hv.s, by rw [hu _ (by omega)]; exact hv.md, by rw [up_eq]; omega, fun i hi => ?_, by rw [hu _ (by omega)]; exact hv.l, by rw [hu _ (by omega), hu _ (by omega)]; exact hv.f⟩, VL.up hv hp.2.1 (fun i h1 _ => hu i (by omega)), fun e he => ?_, hp.2.2.2⟩
    · rw [up_eq] at hi; omega
    · rw [hu _ (by omega), hu _ (by omega)]; exact hp.2.2.1 e he
  refine ⟨fun c q1 q2 => a1 c (by omega), va_up r 202 0, lw, H, im, ilw, bt, ln, fr, dr, ms, hp2, fun s => ?_, fun M5 hr => ?_⟩
  · refine hc.wh s (fun c q1 q2 q3 q4 => a1 c q2) ⟨?_, ?_, ?_, ?_, fun j hj => ?_, fun t ht => ?_⟩ ⟨?_, ?_, ?_, ?_⟩
    · exact (w1.keep (fun c q1 q2 => a1 c (by omega))).cg hv.k hv.t (fun i hi => hu i (by omega)) (hu _ (by omega)) (hu _ (by omega))
    · rw [a3, up_eq]; rfl
    · rw [a2 5 (by omega), hu _ (by omega)]; exact w3
    · rw [a2 6 (by omega), hu _ (by omega)]; exact w4
    · rw [up_eq] at hj; omega
    · rw [hu _ (by omega)] at ht
      obtain ⟨y, y1, y2, y3⟩ := w6 t ht
      exact ⟨y, y1, by rw [s.2.1]; exact y2, y3.keep s (fun c q1 q2 => a1 c (by omega))⟩
    · rw [a1 _ (by omega)]; exact hc.2.2.2.2.2.2.2.2.2.1
    · rw [a1 _ (by omega)]; exact hc.2.2.2.2.2.2.2.2.2.2.1
    · rw [a1 _ (by omega)]; exact hc.2.2.2.2.2.2.2.2.2.2.2.1
    · rw [a1 _ (by omega)]; exact hc.2.2.2.2.2.2.2.2.2.2.2.2
  · show pX9_forget 20000 1290 M5 (A + 329) _
    unfold pX9_forget
    intro M6 h6
    rw [hr.2.1 202 (by omega)]
    obtain ⟨p1, p2, p3⟩ := wi_k h6
    exact ⟨rfl, fun c q => p1 c (by omega), fun s => hr.row s (fun c j u1 _ => by rw [p1 c u1]) (by rw [h6, iZ_l0]; exact hr.2.1.up) (by rw [p1 _ (by omega)]; exact hr.2.2.2.2.2.2.2.1) ⟨rfl, rfl, rfl⟩⟩
theorem ob_seen : Ob X 1311 0 0 kX8_seen kX9_seen (INV A) A (A + 329) [.int x1, .int x2] := by
  obtain ⟨x, rfl, b1, b2⟩ := i32x x1
  obtain ⟨y, rfl, c1, c2⟩ := i32x x2
  refine ob_og (P8 := fun M R => pX8_seen 20000 1290 M A (iZ x) (iZ y) R) (P9 := fun M R => pX9_seen 20000 1290 M (A + 329) (iZ x) (iZ y) R) (fun M R Q s hh hR => uX8_seen (d := 1310) s hh (fun v M1 j h => hR v M1 j.l h)) (fun M R Q s hh hR => uX9_seen (d := 1310) s hh (fun v M1 j h => hR v M1 j.l h)) (fun M r lw H im ilw bt ln fr dr ms hp hc => ?_)
  have hv := hp.1
  have nb := hv.n
  obtain ⟨w1, w2, w3, w4, w5, w6⟩ := hc.2.1
  have lx : fX9_lies (iZ x) 0 59 = iB (decide (0 ≤ x ∧ x ≤ 59)) := by rw [iZ_l59]; exact lo3 b1 b2 (by omega) (by omega)
  have ly : fX9_lies (iZ y) 0 1 = iB (decide (0 ≤ y ∧ y ≤ 1)) := by rw [iZ_l1]; exact lo3 c1 c2 (by omega) (by omega)
  have ref : ¬ ((0 ≤ x ∧ x ≤ 59) ∧ 0 ≤ y ∧ y ≤ 1) → pX8_refuse 20000 1290 M A (-1) (fun v M1 => OG A (fun M R => pX9_seen 20000 1290 M (A + 329) (iZ x) (iZ y) R) M r H im bt ln fr dr ms v M1) := fun hn => by
    rw [iZ_n1]
    refine OG.rf (Or.inl rfl) hp hc (fun M2 hr R hR => ?_)
    unfold pX9_seen
    intro v hv
    rw [lx] at hv
    subst hv
    rw [iB_0, decide_eq_false_iff_not, iZ_n1]
    refine ⟨fun _ => IR.rf (Or.inl rfl) hr hR, fun z v3 hv3 => ?_⟩
    rw [ly] at hv3
    subst hv3
    rw [iB_0, decide_eq_false_iff_not]
    exact ⟨fun z2 => absurd ⟨Classical.not_not.mp z, Classical.not_not.mp z2⟩ hn, fun _ => IR.rf (Or.inl rfl) hr hR⟩
  unfold pX8_seen
  rw [w2, iZ_l0, iZ_lt (by omega) (by omega) (by omega) (by omega), iZ_l60, iZ_le (by omega) (by omega) (by omega) (by omega), iZ_lt (by omega) (by omega) (by omega) (by omega), iZ_l1, iZ_le (by omega) (by omega) (by omega) (by omega), iZ_l6, iZ_lt (by omega) (by omega) (by omega) (by omega)]
  refine ⟨fun z => ref (by omega), fun z => ⟨fun z2 => ref (by omega), fun z2 => ⟨fun z3 => ref (by omega), fun z3 => ⟨fun z4 => ⟨fun z5 => ?_, fun z5 => ?_⟩, fun z4 => ref (by omega)⟩⟩⟩⟩
  · obtain ⟨n, hn⟩ := Int.eq_ofNat_of_zero_le nb.1
    have hn2 : r 202 = (n : Int) := hn
    rw [hn2, iZ_cl (by omega)]
    refine ⟨iZ_in (by omega) (by omega) (by omega), fun M4 h4 => ?_⟩
    obtain ⟨a1, a2, a3⟩ := wi_k h4
    have e4 : g_mi M4 (A + 1) 4 = iZ (n : Int) := by rw [a1 _ (by omega), w2, hn2]
    rw [e4, iZ_cl (by omega)]
    refine ⟨iZ_in (by omega) (by omega) (by omega), fun M5 h5 M6 h6 => ?_⟩
    obtain ⟨d1, d2, d3⟩ := wi_k h5
    have e5 : g_mi M5 (A + 1) 4 = iZ (n : Int) := by rw [d1 _ (by omega), e4]
    rw [e5, ← iZ_l1, iZ_s1] at h6
    obtain ⟨f1, f2, f3⟩ := wi_k h6
    rw [f3]
    unfold pX8_accept
    intro M7 h7
    obtain ⟨g1, g2, g3⟩ := wi_k h7
    have kk : ∀ c, c ≠ A → c ≠ A + 1 → c ≠ A + 9 → c ≠ A + 10 → g_mi M7 c = g_mi M c := fun c q1 q2 q3 q4 => by rw [g1 c q1, f1 c q2, d1 c (by omega), a1 c (by omega)]
    generalize hr2 : va_up (va_up (va_up r (188 + 2 * n) x) (188 + 2 * n + 1) y) 202 (((n + 1 : Nat) : Int)) = r2
    have hu : ∀ k, k ≠ 202 → k ≠ 188 + 2 * n → k ≠ 188 + 2 * n + 1 → r2 k = r k := fun k q1 q2 q3 => by rw [← hr2, up_ne q1, up_ne q3, up_ne q2]
    have u202 : r2 202 = ((n + 1 : Nat) : Int) := by rw [← hr2, up_eq]
    have ua : r2 (188 + 2 * n) = x := by rw [← hr2, up_ne (by omega), up_ne (by omega), up_eq]
    have ub : r2 (188 + 2 * n + 1) = y := by rw [← hr2, up_ne (by omega), up_eq]
    have md := hv.mid (r2 := r2) (fun i hi => hu i (by omega) (by omega) (by omega))
    have hp2 : PVs r2 lw H im ilw := by
      refine ⟨⟨md.1, md.2, by rw [hu _ (by omega) (by omega) (by omega)]; exact hv.s, by rw [hu _ (by omega) (by omega) (by omega)]; exact hv.md, by rw [u202]; omega, fun i hi => ?_, by rw [hu _ (by omega) (by omega) (by omega)]; exact hv.l, by rw [hu _ (by omega) (by omega) (by omega), hu _ (by omega) (by omega) (by omega)]; exact hv.f⟩, VL.up hv hp.2.1 (fun i h1 _ => hu i (by omega) (by omega) (by omega)), fun e he => ?_, hp.2.2.2⟩
      · rw [u202] at hi
        by_cases c : i = n
        · subst c; rw [ua, ub]; omega
        · rw [hu _ (by omega) (by omega) (by omega), hu _ (by omega) (by omega) (by omega)]; exact hv.sn i (by omega)
      · rw [hu _ (by omega) (by omega) (by omega), hu _ (by omega) (by omega) (by omega)]; exact hp.2.2.1 e he
    refine ⟨fun c q1 q2 => kk c (by omega) (by omega) (by omega) (by omega), r2, lw, H, im, ilw, bt, ln, fr, dr, va_up ms 0 0, hp2, fun s => ?_, fun M8 hr => ?_⟩
    · refine hc.wh s kk ⟨?_, ?_, ?_, ?_, fun j hj => ?_, fun t ht => ?_⟩ ⟨g3, ?_, ?_, ?_⟩
      · exact (w1.keep (fun c q1 q2 => kk c (by omega) (by omega) (by omega) (by omega))).cg hv.k hv.t (fun i hi => hu i (by omega) (by omega) (by omega)) (hu _ (by omega) (by omega) (by omega)) (hu _ (by omega) (by omega) (by omega))
      · rw [g1 _ (by omega), f3, u202]
      · rw [g1 _ (by omega), f2 5 (by omega), d1 _ (by omega), a1 _ (by omega), hu _ (by omega) (by omega) (by omega)]; exact w3
      · rw [g1 _ (by omega), f2 6 (by omega), d1 _ (by omega), a1 _ (by omega), hu _ (by omega) (by omega) (by omega)]; exact w4
      · rw [u202] at hj
        rw [g1 _ (by omega), g1 _ (by omega), f1 _ (by omega), f1 _ (by omega), d1 (A + 1 + 8) (by omega)]
        by_cases c : j = n
        · subst c
          rw [ua, ub, a3, d3]
          exact ⟨rfl, rfl⟩
        · rw [a2 j c, d2 j c, a1 (A + 1 + 9) (by omega), hu _ (by omega) (by omega) (by omega), hu _ (by omega) (by omega) (by omega)]; exact w5 j (by omega)
      · rw [hu _ (by omega) (by omega) (by omega)] at ht
        obtain ⟨q, y1, y2, y3⟩ := w6 t ht
        exact ⟨q, y1, by rw [s.2.1]; exact y2, y3.keep s (fun c q1 q2 => kk c (by omega) (by omega) (by omega) (by omega))⟩
      · rw [kk _ (by omega) (by omega) (by omega) (by omega)]; exact hc.2.2.2.2.2.2.2.2.2.2.1
      · rw [g2 15 (by omega), f1 _ (by omega), d1 _ (by omega), a1 _ (by omega)]; exact hc.2.2.2.2.2.2.2.2.2.2.2.1
      · rw [g2 14 (by omega), f1 _ (by omega), d1 _ (by omega), a1 _ (by omega)]; exact hc.2.2.2.2.2.2.2.2.2.2.2.2
    · show pX9_seen 20000 1290 M8 (A + 329) (iZ x) (iZ y) _
      unfold pX9_seen
      intro v hv1
      rw [lx, decide_eq_true (by omega)] at hv1
      subst hv1
      refine ⟨fun q => absurd q (by decide), fun _ v3 hv3 => ?_⟩
      rw [ly, decide_eq_true (by omega)] at hv3
      subst hv3
      refine ⟨fun _ => ?_, fun q => absurd q (by decide)⟩
      rw [hr.2.1 202 (by omega), hn2]
      have ex : (188 : Int32) + 2 * iZ (n : Int) = iZ ((188 + 2 * n : Nat) : Int) := by rw [iZ_l188, iZ_l2, iZ_mul, iZ_add]; congr 1
      rw [ex, iZ_s1, iZ_cl (by omega), iZ_cl (by omega)]
      refine ⟨fun _ => ⟨iZ_in (by omega) (by omega) (by omega), fun M9 h9 => ⟨iZ_in (by omega) (by omega) (by omega), fun M10 h10 M11 h11 => ?_⟩⟩, fun q => absurd q (by rw [iZ_l6, iZ_eq (by omega) (by omega) (by omega) (by omega)]; omega)⟩
      have R10 : Rr M10 (A + 329) (va_up (va_up r (188 + 2 * n) x) (188 + 2 * n + 1) y) := by
        rw [h10, h9]; exact Rr.up (Rr.up hr.2.1)
      rw [R10 202 (by omega), up_ne (by omega), up_ne (by omega), hn2, iZ_s1] at h11
      have R11 : Rr M11 (A + 329) r2 := by
        rw [h11, ← hr2]; exact Rr.up R10
      rw [R11 202 (by omega), u202]
      unfold pX9_good0
      intro M12 h12
      obtain ⟨p1, p2, p3⟩ := wi_k h9
      obtain ⟨q1, q2, q3⟩ := wi_k h10
      obtain ⟨s1, s2, s3⟩ := wi_k h11
      obtain ⟨t1, t2, t3⟩ := wi_k h12
      have kf : ∀ c j, c ≠ A + 329 + 2 → (c ≠ A + 329 ∨ j ≠ 0) → g_mi M12 c j = g_mi M8 c j := fun c j u1 u2 => by
        by_cases w : c = A + 329
        · subst w; rw [t2 j (by omega), s1 _ (by omega), q1 _ (by omega), p1 _ (by omega)]
        · rw [t1 c w, s1 c u1, q1 c u1, p1 c u1]
      exact ⟨rfl, fun c q => by funext j; exact kf c j (by omega) (by omega), fun s => hr.row s kf (R11.kp (t1 _ (by omega))) t3 ⟨rfl, rfl, rfl⟩⟩
  · rw [iZ_n5]
    refine OG.rf (Or.inr (Or.inr (Or.inr (Or.inl rfl)))) hp hc (fun M2 hr R hR => ?_)
    unfold pX9_seen
    intro v hv1
    rw [lx, decide_eq_true (by omega)] at hv1
    subst hv1
    refine ⟨fun q => absurd q (by decide), fun _ v3 hv3 => ?_⟩
    rw [ly, decide_eq_true (by omega)] at hv3
    subst hv3
    refine ⟨fun _ => ?_, fun q => absurd q (by decide)⟩
    rw [hr.2.1 202 (by omega), show r 202 = 6 by omega]
    exact ⟨fun q => absurd rfl q, fun _ => by rw [iZ_n5]; exact IR.rf (Or.inr (Or.inr (Or.inr (Or.inl rfl)))) hr hR⟩
theorem ob_end : Ob X 1311 0 0 kX8_end kX9_end (INV A) A (A + 329) [.int x1] := by
  obtain ⟨x, rfl, b1, b2⟩ := i32x x1
  refine ob_og (P8 := fun M R => pX8_end 20000 1290 M A (iZ x) R) (P9 := fun M R => pX9_end 20000 1290 M (A + 329) (iZ x) R) (fun M R Q s hh hR => uX8_end (d := 1311) s hh (fun v M1 j h => hR v M1 j.l h)) (fun M R Q s hh hR => uX9_end (d := 1310) s hh (fun v M1 j h => hR v M1 j.l h)) (fun M r lw H im ilw bt ln fr dr ms hp hc => ?_)
  have hT := hc.2.2.2.2.2.2.1
  have l400 := hT.1
  have same : ¬ (0 ≤ x ∧ x ≤ ln) → OG A (fun M R => pX9_end 20000 1290 M (A + 329) (iZ x) R) M r H im bt ln fr dr ms (-1) M := fun hn => by
    refine ⟨fun c _ _ => rfl, r, lw, H, im, ilw, bt, ln, fr, dr, ms, hp, fun _ => hc, fun M2 hr => ?_⟩
    show pX9_end 20000 1290 M2 (A + 329) (iZ x) _
    unfold pX9_end
    intro v hv
    rw [hr.2.2.2.2.1.2.1, lo3 b1 b2 (by omega) (by omega), decide_eq_false hn] at hv
    subst hv
    exact ⟨fun q => absurd rfl q, fun _ => ⟨rfl, fun _ _ => rfl, fun _ => hr⟩⟩
  unfold pX8_end
  rw [hT.2.1, iZ_l0, iZ_lt (by omega) (by omega) (by omega) (by omega), iZ_le (by omega) (by omega) (by omega) (by omega)]
  refine ⟨fun z => same (by omega), fun z => ⟨fun z2 M1 h1 => ?_, fun z2 => same (by omega)⟩⟩
  obtain ⟨a1, a2, a3⟩ := wi_k h1
  refine ⟨fun c q1 q2 => a1 c (by omega), r, lw, H, im, ilw, bt, x.toNat, fr, dr, ms, hp, fun s => ?_, fun M2 hr => ?_⟩
  · refine hc.mix s (fun c q => a1 c (by omega)) (hc.2.1.keep s (fun c q1 q2 => a1 c (by omega)) (fun c q => a1 c (by omega))) (hc.2.2.2.1.keep (fun c q1 q2 => a1 c (by omega))) (hc.2.2.2.2.1.keep (by rw [a1 _ (by omega)])) ⟨by omega, by rw [a3]; congr 1; omega, fun i hi => ?_⟩ (hc.2.2.2.2.2.2.2.1.kp (a1 _ (by omega))) (hc.2.2.2.2.2.2.2.2.1.kp (a1 _ (by omega))) ⟨?_, ?_, ?_, ?_⟩
    · rw [a1 _ (by omega)]; exact hT.2.2 i (by omega)
    · rw [a1 _ (by omega)]; exact hc.2.2.2.2.2.2.2.2.2.1
    · rw [a2 6 (by omega)]; exact hc.2.2.2.2.2.2.2.2.2.2.1
    · rw [a1 _ (by omega)]; exact hc.2.2.2.2.2.2.2.2.2.2.2.1
    · rw [a1 _ (by omega)]; exact hc.2.2.2.2.2.2.2.2.2.2.2.2
  · show pX9_end 20000 1290 M2 (A + 329) (iZ x) _
    unfold pX9_end
    intro v hv
    rw [hr.2.2.2.2.1.2.1, lo3 b1 b2 (by omega) (by omega), decide_eq_true (by omega)] at hv
    subst hv
    refine ⟨fun _ M3 h3 => ?_, fun q => absurd q (by decide)⟩
    obtain ⟨p1, p2, p3⟩ := wi_k h3
    refine ⟨rfl, fun c q => p1 c (by omega), fun s => ?_⟩
    refine hr.mix s (fun c q => p1 c (by omega)) (hr.2.1.kp (p1 _ (by omega))) (hr.2.2.1.keep (p2 _ (by omega)) (p1 _ (by omega))) ⟨by omega, fun i hi => ?_⟩ (by rw [p3]; congr 1; omega) (hr.2.2.2.2.2.1.kp (p1 _ (by omega))) (hr.2.2.2.2.2.2.1.kp (p2 _ (by omega)) (p1 _ (by omega))) ⟨?_, ?_, ?_, ?_⟩
    · rw [p1 _ (by omega)]; exact hr.2.2.2.2.1.1.2 i (by omega)
    · rw [p2 _ (by omega)]; exact hr.2.2.2.2.2.2.2.1
    · rw [p2 _ (by omega)]; exact hr.2.2.2.2.2.2.2.2.1
    · rw [p2 _ (by omega)]; exact hr.2.2.2.2.2.2.2.2.2.1
    · rw [p2 _ (by omega)]; exact hr.2.2.2.2.2.2.2.2.2.2
end OB5
