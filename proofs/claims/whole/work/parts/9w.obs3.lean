/-! Calls: the small ones. -/
section OGS
variable {X : gX} {A b : Nat} {k1 k2 : gK} {av : List Value} {P8 P9 : gM → (Int32 → gM → Prop) → Prop} {r r2 : Nat → Int} {lw lw2 : LWs} {H H2 : List ((Nat → Int) × Int)} {im : Nat → Option (Nat → Int)} {ilw : Nat → LWs} {bt bt2 : Nat → Int} {ln ln2 : Nat} {fr fr2 dr dr2 ms ms2 : Nat → Int32}
/-- what a call of the class leaves to be shown -/
def OG (A : Nat) (P9 : gM → (Int32 → gM → Prop) → Prop) (M : gM) (r : Nat → Int) (H : List ((Nat → Int) × Int)) (im : Nat → Option (Nat → Int)) (bt : Nat → Int) (ln : Nat) (fr dr ms : Nat → Int32) (v : Int32) (M1 : gM) : Prop := Kp9 A M M1 ∧ ∃ r' lw' H' im' ilw' bt' ln' fr' dr' ms', PVs r' lw' H' im' ilw' ∧ (Sl M M1 → IC M1 A r' lw' H' im' ilw' bt' ln' fr' dr' ms') ∧ ∀ M2, IR M2 (A + 329) r H im bt ln fr dr ms → P9 M2 (fun w M3 => w = v ∧ Kp8 A M2 M3 ∧ (Sl M2 M3 → IR M3 (A + 329) r' H' im' bt' ln' fr' dr' ms'))
theorem ob_og (h8 : ∀ (M : gM) (R : Int32 → gM → Prop) (Q : Option Value → gM → Prop), Ph M A → P8 M R → (∀ v M1, Sl M M1 → R v M1 → Q (some (.int v)) M1) → Cn X 1311 0 0 k1 (.ref A :: av) M Q) (h9 : ∀ (M : gM) (R : Int32 → gM → Prop) (Q : Option Value → gM → Prop), Mo M (A + 329) → P9 M R → (∀ v M1, Sl M M1 → R v M1 → Q (some (.int v)) M1) → Cn X 1311 0 0 k2 (.ref (A + 329) :: av) M Q) (hs : ∀ M r lw H im ilw bt ln fr dr ms, PVs r lw H im ilw → IC M A r lw H im ilw bt ln fr dr ms → P8 M (OG A P9 M r H im bt ln fr dr ms)) : Ob X 1311 0 0 k1 k2 (INV A) A (A + 329) av := ob_gen h8 h9 hs
theorem IC.mix {M M1 : gM} (hc : IC M A r lw H im ilw bt ln fr dr ms) (hs : Sl M M1) (k : ∀ c, ((A + 296 ≤ c ∧ c ≤ A + 302) ∨ (A + 307 ≤ c ∧ c ≤ A + 328) ∨ A + 353 ≤ c) → g_mi M1 c = g_mi M c) (hW : CW M1 (A + 353) (A + 1) r2 lw2) (hH : cH M1 A H2) (hQ : cQ M1 A) (hT : Cb M1 (A + 282) bt2 ln2) (hf : Rfs M1 A fr2) (hD : cD M1 A dr2) (hM : cM M1 A ms2) : IC M1 A r2 lw2 H2 im ilw bt2 ln2 fr2 dr2 ms2 := ⟨Ph.sl hs hc.1, hW, hc.2.2.1.keep hs (fun c q1 q2 => k c (by omega)), hH, hQ, hc.2.2.2.2.2.1.keep hs (fun c q1 q2 => k c (by omega)) (fun c q => k c (by omega)), hT, hf, hD, hM⟩
theorem IR.mix {M M1 : gM} (hr : IR M b r H im bt ln fr dr ms) (hs : Sl M M1) (k : ∀ c, (c = b + 3 ∨ c = b + 4 ∨ c = b + 6) → g_mi M1 c = g_mi M c) (hR : Rr M1 b r2) (hH : RLh M1 b H2) (hT : Mb M1 b bt2 ln2) (h13 : g_mi M1 b 13 = iZ ln2) (hf : Rfm M1 b fr2) (hD : rD M1 b dr2) (hM : rM M1 b ms2) : IR M1 b r2 H2 im bt2 ln2 fr2 dr2 ms2 := by
  obtain ⟨a1, a2, a3, a4, ⟨a5, a6, a7⟩, a8, a9, a10⟩ := hr
  refine ⟨Mo.sl hs a1, hR, hH, ?_, ⟨hT, h13, ?_⟩, hf, hD, hM⟩
  · unfold rI at a4 ⊢
    rw [k (b + 4) (by omega), k (b + 3) (by omega)]; exact a4
  · unfold Vw at a7 ⊢
    rw [k (b + 6) (by omega)]; exact a7
theorem cQ.keep {M M1 : gM} (h : cQ M A) (k : g_mi M1 (A + 135) 2 = g_mi M (A + 135) 2) : cQ M1 A := by
  unfold cQ at h ⊢
  rw [k]; exact h
theorem Cb.kp {M M1 : gM} (h : Cb M (A + 282) bt ln) (k5 : g_mi M1 (A + 282) 5 = g_mi M (A + 282) 5) (k : g_mi M1 (A + 283) = g_mi M (A + 283)) : Cb M1 (A + 282) bt ln := by
  unfold Cb at h ⊢
  rw [k5, show A + 282 + 1 = A + 283 from rfl, k]; exact h
theorem Rfs.kp {M M1 : gM} (h : Rfs M A fr) (k : g_mi M1 (A + 304) = g_mi M (A + 304)) : Rfs M1 A fr := by
  unfold Rfs at h ⊢
  rw [k]; exact h
theorem cD.kp {M M1 : gM} (h : cD M A dr) (k : g_mi M1 (A + 303) = g_mi M (A + 303)) : cD M1 A dr := by
  unfold cD at h ⊢
  rw [k]; exact h
theorem Mb.kp {M M1 : gM} (h : Mb M b bt ln) (k : g_mi M1 (b + 7) = g_mi M (b + 7)) : Mb M1 b bt ln := by
  unfold Mb at h ⊢
  rw [k]; exact h
theorem Rfm.kp {M M1 : gM} (h : Rfm M b fr) (k : g_mi M1 (b + 1) = g_mi M (b + 1)) : Rfm M1 b fr := by
  unfold Rfm at h ⊢
  rw [k]; exact h
theorem rD.kp {M M1 : gM} (h : rD M b dr) (k : g_mi M1 b 48 = g_mi M b 48) (k2 : g_mi M1 (b + 23) = g_mi M (b + 23)) : rD M1 b dr := by
  unfold rD at h ⊢
  rw [k, k2]; exact h
theorem Rr.kp {M M1 : gM} (h : Rr M b r) (k : g_mi M1 (b + 2) = g_mi M (b + 2)) : Rr M1 b r := fun i hi => by rw [k]; exact h i hi
/-- both refuse -/
theorem OG.rf {M : gM} {N K : Nat} {v : Int} (hv : isR v) (hp : PVs r lw H im ilw) (hc : IC M A r lw H im ilw bt ln fr dr ms) (h9 : ∀ M2, IR M2 (A + 329) r H im bt ln fr dr ms → ∀ R : Int32 → gM → Prop, (∀ M3, (∀ c j, (c ≠ A + 329 ∨ j ≠ 0) → c ≠ A + 329 + 1 → g_mi M3 c j = g_mi M2 c j) → g_mi M3 (A + 329) 0 = iZ v → Rfm M3 (A + 329) (refU fr v) → R (iZ v) M3) → P9 M2 R) : pX8_refuse N K M A (iZ v) (OG A P9 M r H im bt ln fr dr ms) := by
  obtain ⟨f, hf⟩ := hc.2.2.2.1
  refine rf_8 hv hc.2.2.2.2.2.2.2.1 (fun M1 k1 s1 r1 => ⟨fun c q1 q2 => by funext j; exact k1 c j (by omega) (by omega), r, lw, H, im, ilw, bt, ln, _, dr, _, hp, fun s => hc.ch hp.1 s (fun c j q1 q2 q3 q4 q5 => k1 c j q5 q4) (hc.rs.keep (fun c q1 q2 => by funext j; exact k1 c j (by omega) (by omega))) (fun _ _ _ => rfl) (hf.keep (fun c q1 q2 => by funext j; exact k1 c j (by omega) (by omega))) s1 r1, fun M2 hr => ?_⟩)
  refine h9 M2 hr _ (fun M3 k3 s3 r3 => ⟨rfl, fun c q => by funext j; exact k3 c j (by omega) (by omega), fun s => ?_⟩)
  exact hr.ch s (fun c j q1 q2 q3 q4 q5 q6 => k3 c j (by omega) q1) (hr.2.1.kp (by funext j; exact k3 _ _ (by omega) (by omega))) (hr.2.2.1.keep (k3 _ _ (by omega) (by omega)) (by funext j; exact k3 _ _ (by omega) (by omega))) s3 r3
theorem IR.rf {M : gM} {R : Int32 → gM → Prop} {N K : Nat} {v : Int} (hv : isR v) (hr : IR M b r H im bt ln fr dr ms) (hE : ∀ M3, (∀ c j, (c ≠ b ∨ j ≠ 0) → c ≠ b + 1 → g_mi M3 c j = g_mi M c j) → g_mi M3 b 0 = iZ v → Rfm M3 b (refU fr v) → R (iZ v) M3) : pX9_refuses N K M b (iZ v) R := rf_9 hv hr.2.2.2.2.2.1 hE
end OGS
def thA (r : Nat → Int) (x : Int) : Int := if 0 ≤ x ∧ x < r 0 then r (1 + x.toNat) else -1
section THR
variable {N K A b : Nat} {r : Nat → Int} {x : Int} {M : gM} {R : Int32 → Prop}
theorem th_8 (hV : Vk r) (hR : Rk M (A + 1 + 1) r) (x1 : -2147483648 ≤ x) (x2 : x < 2147483648) (hE : R (iZ (thA r x))) : pX8_there N K M A (iZ x) R := by
  have v1 := hV.1
  have v2 := hV.2.1
  unfold pX8_there
  unfold thA at hE
  rw [hR.1, iZ_l0, iZ_lt (by omega) (by omega) (by omega) (by omega), iZ_le (by omega) (by omega) (by omega) (by omega)]
  refine ⟨fun z => ?_, fun z => ⟨fun z2 => ?_, fun z2 => ?_⟩⟩
  · rw [if_neg (by omega)] at hE; rw [iZ_n1]; exact hE
  · rw [if_neg (by omega)] at hE; rw [iZ_n1]; exact hE
  · rw [if_pos (by omega)] at hE
    rw [iZ_nat x1 x2, hR.2.1 _ (by omega)]
    exact ⟨iZ_in (by omega) (by omega) (by omega), hE⟩
theorem th_9 (hV : Vk r) (hR : Rr M b r) (x1 : -2147483648 ≤ x) (x2 : x < 2147483648) (hE : R (iZ (thA r x))) : pX9_there N K M b (iZ x) R := by
  have v1 := hV.1
  have v2 := hV.2.1
  unfold pX9_there
  unfold thA at hE
  intro v hv
  rw [hR 0 (by omega), iZ_l0, iZ_l1, iZ_sub, lies_9 x1 x2 (by omega) (by omega) (by omega) (by omega)] at hv
  subst hv
  rw [iB_0, decide_eq_false_iff_not]
  refine ⟨fun z => ?_, fun z => ?_⟩
  · rw [if_neg (by omega)] at hE; rw [iZ_n1]; exact hE
  · have z2 := Classical.not_not.mp z
    rw [if_pos (by omega)] at hE
    obtain ⟨k1, k2⟩ := ka_9 (i := x.toNat) hR (by omega)
    rw [show x = ((x.toNat : Nat) : Int) by omega]
    exact ⟨k1, fun v2 hv2 => by rw [hv2, k2]; exact hE⟩
end THR
section OB3
variable {X : gX} {A : Nat} {x1 x2 : Int32}
theorem ob_there : Ob X 1311 0 0 kX8_there kX9_there (INV A) A (A + 329) [.int x1] := by
  obtain ⟨x, rfl, b1, b2⟩ := i32x x1
  refine ob_q (P8 := fun M R => pX8_there 20000 1290 M A (iZ x) (fun v => R v M)) (P9 := fun M R => pX9_there 20000 1290 M (A + 329) (iZ x) (fun v => R v M)) (fun M R Q s hh hR => uX8_there (d := 1311) s hh (fun v h => hR v M ⟨rfl, rfl, rfl⟩ h)) (fun M R Q s hh hR => uX9_there (d := 1310) s hh (fun v h => hR v M ⟨rfl, rfl, rfl⟩ h)) (fun r lw H im ilw bt ln fr dr ms hp => ⟨iZ (thA r x), fun M hc R hR => ?_, fun M hr R hR => ?_⟩)
  · exact th_8 hp.1.k hc.rs.1 b1 b2 (hR M Q8.rf)
  · exact th_9 hp.1.k hr.2.1 b1 b2 (hR M Q9.rf)
theorem ob_ceiling : Ob X 1311 0 0 kX8_ceiling kX9_ceiling (INV A) A (A + 329) [.int x1] := by
  obtain ⟨x, rfl, b1, b2⟩ := i32x x1
  refine ob_q (P8 := fun M R => pX8_ceiling 20000 1290 M A (iZ x) (fun v => R v M)) (P9 := fun M R => pX9_ceiling 20000 1290 M (A + 329) (iZ x) (fun v => R v M)) (fun M R Q s hh hR => uX8_ceiling (d := 1310) s hh (fun v h => hR v M ⟨rfl, rfl, rfl⟩ h)) (fun M R Q s hh hR => uX9_ceiling (d := 1309) s hh (fun v h => hR v M ⟨rfl, rfl, rfl⟩ h)) (fun r lw H im ilw bt ln fr dr ms hp => ⟨iZ (thA r (lo r x)), fun M hc R hR => ?_, fun M hr R hR => ?_⟩)
  · have hV := hp.1.k
    have v1 := hV.1
    have v2 := hV.2.1
    have hRk := hc.rs.1
    obtain ⟨l1, l2⟩ := lo_8 (N := 20000) (k := x) (by omega) hV hRk b1 b2
    have hE := hR M Q8.rf
    unfold thA at hE
    unfold pX8_ceiling
    refine ⟨l1, fun v hv => ?_⟩
    rw [l2] at hv
    subst hv
    rw [hRk.1, iZ_le (by omega) (by omega) (by have := lo_le r x v1; omega) (by have := lo_le r x v1; omega)]
    refine ⟨fun z => ?_, fun z => ?_⟩
    · rw [if_neg (by omega)] at hE; rw [iZ_n1]; exact hE
    · rw [if_pos (by omega), show ((lo r x : Nat) : Int).toNat = lo r x from rfl] at hE
      rw [iZ_cl (by omega), hRk.2.1 _ (by omega)]
      exact ⟨iZ_in (by omega) (by omega) (by omega), hE⟩
  · have hV := hp.1.k
    obtain ⟨l1, l2⟩ := lo_9 (N := 20000) (k := x) (by omega) hV hr.2.1 b1 b2
    have := lo_le r x hV.1
    have v2 := hV.2.1
    unfold pX9_ceiling
    refine ⟨l1, fun v hv => ?_⟩
    rw [l2] at hv
    subst hv
    exact th_9 hV hr.2.1 (by omega) (by omega) (hR M Q9.rf)
theorem ob_status : Ob X 1311 0 0 kX8_status kX9_status (INV A) A (A + 329) [] := by
  refine ob_q (P8 := fun M R => pX8_status 20000 1290 M A (fun v => R v M)) (P9 := fun M R => pX9_status 20000 1290 M (A + 329) (fun v => R v M)) (fun M R Q s hh hR => uX8_status (d := 1311) s hh (fun v h => hR v M ⟨rfl, rfl, rfl⟩ h)) (fun M R Q s hh hR => uX9_status (d := 1311) s hh (fun v h => hR v M ⟨rfl, rfl, rfl⟩ h)) (fun r lw H im ilw bt ln fr dr ms hp => ⟨ms 0, fun M hc R hR => ?_, fun M hr R hR => ?_⟩)
  · unfold pX8_status
    rw [hc.2.2.2.2.2.2.2.2.2.1]; exact hR M Q8.rf
  · unfold pX9_status
    rw [hr.2.2.2.2.2.2.2.1]; exact hR M Q9.rf
theorem ob_fault : Ob X 1311 0 0 kX8_fault kX9_fault (INV A) A (A + 329) [] := by
  refine ob_q (P8 := fun M R => pX8_fault 20000 1290 M A (fun v => R v M)) (P9 := fun M R => pX9_fault 20000 1290 M (A + 329) (fun v => R v M)) (fun M R Q s hh hR => uX8_fault (d := 1311) s hh (fun v h => hR v M ⟨rfl, rfl, rfl⟩ h)) (fun M R Q s hh hR => uX9_fault (d := 1311) s hh (fun v h => hR v M ⟨rfl, rfl, rfl⟩ h)) (fun r lw H im ilw bt ln fr dr ms hp => ⟨ms 1, fun M hc R hR => ?_, fun M hr R hR => ?_⟩)
  · unfold pX8_fault
    rw [hc.2.2.2.2.2.2.2.2.2.2.1]; exact hR M Q8.rf
  · unfold pX9_fault
    rw [hr.2.2.2.2.2.2.2.2.1]; exact hR M Q9.rf
theorem ob_blanks : Ob X 1311 0 0 kX8_blanks kX9_blanks (INV A) A (A + 329) [] := by
  refine ob_q (P8 := fun M R => pX8_blanks 20000 1290 M A (fun v => R v M)) (P9 := fun M R => pX9_blanks 20000 1290 M (A + 329) (fun v => R v M)) (fun M R Q s hh hR => uX8_blanks (d := 1311) s hh (fun v h => hR v M ⟨rfl, rfl, rfl⟩ h)) (fun M R Q s hh hR => uX9_blanks (d := 1311) s hh (fun v h => hR v M ⟨rfl, rfl, rfl⟩ h)) (fun r lw H im ilw bt ln fr dr ms hp => ⟨ms 2, fun M hc R hR => ?_, fun M hr R hR => ?_⟩)
  · unfold pX8_blanks
    rw [hc.2.2.2.2.2.2.2.2.2.2.2.1]; exact hR M Q8.rf
  · unfold pX9_blanks
    rw [hr.2.2.2.2.2.2.2.2.2.1]; exact hR M Q9.rf
theorem ob_stopped : Ob X 1311 0 0 kX8_stopped kX9_stopped (INV A) A (A + 329) [] := by
  refine ob_q (P8 := fun M R => pX8_stopped 20000 1290 M A (fun v => R v M)) (P9 := fun M R => pX9_stopped 20000 1290 M (A + 329) (fun v => R v M)) (fun M R Q s hh hR => uX8_stopped (d := 1311) s hh (fun v h => hR v M ⟨rfl, rfl, rfl⟩ h)) (fun M R Q s hh hR => uX9_stopped (d := 1311) s hh (fun v h => hR v M ⟨rfl, rfl, rfl⟩ h)) (fun r lw H im ilw bt ln fr dr ms hp => ⟨ms 3, fun M hc R hR => ?_, fun M hr R hR => ?_⟩)
  · unfold pX8_stopped
    rw [hc.2.2.2.2.2.2.2.2.2.2.2.2]; exact hR M Q8.rf
  · unfold pX9_stopped
    rw [hr.2.2.2.2.2.2.2.2.2.2]; exact hR M Q9.rf
theorem ob_drawn : Ob X 1311 0 0 kX8_drawn kX9_drawn (INV A) A (A + 329) [.int x1] := by
  obtain ⟨x, rfl, b1, b2⟩ := i32x x1
  refine ob_q (P8 := fun M R => pX8_drawn 20000 1290 M A (iZ x) (fun v => R v M)) (P9 := fun M R => pX9_drawn 20000 1290 M (A + 329) (iZ x) (fun v => R v M)) (fun M R Q s hh hR => uX8_drawn (d := 1311) s hh (fun v h => hR v M ⟨rfl, rfl, rfl⟩ h)) (fun M R Q s hh hR => uX9_drawn (d := 1310) s hh (fun v h => hR v M ⟨rfl, rfl, rfl⟩ h)) (fun r lw H im ilw bt ln fr dr ms hp => ⟨if 0 ≤ x ∧ x < 40 then dr x.toNat else -1, fun M hc R hR => ?_, fun M hr R hR => ?_⟩)
  · have hE := hR M Q8.rf
    unfold pX8_drawn
    rw [iZ_l0, iZ_l40, iZ_lt (by omega) (by omega) (by omega) (by omega), iZ_le (by omega) (by omega) (by omega) (by omega)]
    refine ⟨fun z => ?_, fun z => ⟨fun z2 => ?_, fun z2 => ?_⟩⟩
    · rw [if_neg (by omega)] at hE; exact hE
    · rw [if_neg (by omega)] at hE; exact hE
    · rw [if_pos (by omega)] at hE
      rw [iZ_nat b1 b2, hc.2.2.2.2.2.2.2.2.1 _ (by omega)]
      exact ⟨iZ_in (by omega) (by omega) (by omega), hE⟩
  · have hE := hR M Q9.rf
    unfold pX9_drawn
    rcases hr.2.2.2.2.2.2.1 with ⟨d1, d2⟩ | ⟨d1, d2⟩
    · rw [d1]
      refine ⟨fun _ => ?_, fun z => absurd rfl z⟩
      by_cases c : 0 ≤ x ∧ x < 40
      · rw [if_pos c, d2 _ (by omega)] at hE; exact hE
      · rw [if_neg c] at hE; exact hE
    · rw [d1]
      refine ⟨fun z => absurd z (by decide), fun _ v hv => ?_⟩
      rw [iZ_l0, iZ_l39, lies_9 b1 b2 (by omega) (by omega) (by omega) (by omega)] at hv
      subst hv
      rw [iB_0, decide_eq_false_iff_not]
      refine ⟨fun z => ?_, fun z => ?_⟩
      · rw [if_neg (by omega)] at hE; exact hE
      · have z2 := Classical.not_not.mp z
        rw [if_pos (by omega)] at hE
        rw [iZ_nat b1 b2, d2 _ (by omega)]
        exact ⟨iZ_in (by omega) (by omega) (by omega), hE⟩
end OB3
