/-! Calls: one form for all; what only tells. -/
section OBS
variable {X : gX} {A : Nat} {k1 k2 : gK} {av : List Value} {P8 P9 : gM → (Int32 → gM → Prop) → Prop}
theorem ob_gen (h8 : ∀ (M : gM) (R : Int32 → gM → Prop) (Q : Option Value → gM → Prop), Ph M A → P8 M R → (∀ v M1, Sl M M1 → R v M1 → Q (some (.int v)) M1) → Cn X 1311 0 0 k1 (.ref A :: av) M Q) (h9 : ∀ (M : gM) (R : Int32 → gM → Prop) (Q : Option Value → gM → Prop), Mo M (A + 329) → P9 M R → (∀ v M1, Sl M M1 → R v M1 → Q (some (.int v)) M1) → Cn X 1311 0 0 k2 (.ref (A + 329) :: av) M Q) (hs : ∀ M r lw H im ilw bt ln fr dr ms, PVs r lw H im ilw → IC M A r lw H im ilw bt ln fr dr ms → P8 M (fun v M1 => Kp9 A M M1 ∧ ∃ r' lw' H' im' ilw' bt' ln' fr' dr' ms', PVs r' lw' H' im' ilw' ∧ (Sl M M1 → IC M1 A r' lw' H' im' ilw' bt' ln' fr' dr' ms') ∧ ∀ M2, IR M2 (A + 329) r H im bt ln fr dr ms → P9 M2 (fun w M3 => w = v ∧ Kp8 A M2 M3 ∧ (Sl M2 M3 → IR M3 (A + 329) r' H' im' bt' ln' fr' dr' ms')))) : Ob X 1311 0 0 k1 k2 (INV A) A (A + 329) av := by
  intro M hI hfr
  obtain ⟨r, lw, H, im, ilw, bt, ln, fr, dr, ms, hp, hc, hr⟩ := hI
  refine ⟨hc.1.1, fun Q hQ => ?_⟩
  refine h8 M _ Q hc.1 (hs M r lw H im ilw bt ln fr dr ms hp hc) (fun v M1 s hv => ?_)
  obtain ⟨k9, r', lw', H', im', ilw', bt', ln', fr', dr', ms', hp', hc', h9'⟩ := hv
  have hr1 := hr.k9 s k9
  refine hQ v M1 hr1.1.1 (fun Q2 hQ2 => ?_)
  refine h9 M1 _ Q2 hr1.1 (h9' M1 hr1) (fun w M2 s2 hw => ?_)
  obtain ⟨e, k8, hr2⟩ := hw
  rw [e]
  exact hQ2 M2 ⟨r', lw', H', im', ilw', bt', ln', fr', dr', ms', hp', (hc' s).k8 s2 k8, hr2 s2⟩
def Q8 (A : Nat) (M M1 : gM) : Prop := ∀ c j, (pcA A c j ∨ (A + 329 ≤ c ∧ c ≤ A + 352)) → g_mi M1 c j = g_mi M c j
def Q9 (A : Nat) (M M1 : gM) : Prop := ∀ c j, (prB (A + 329) c j ∨ c < A + 329 ∨ A + 352 < c) → g_mi M1 c j = g_mi M c j
/-- a call that only tells -/
theorem ob_q (h8 : ∀ (M : gM) (R : Int32 → gM → Prop) (Q : Option Value → gM → Prop), Ph M A → P8 M R → (∀ v M1, Sl M M1 → R v M1 → Q (some (.int v)) M1) → Cn X 1311 0 0 k1 (.ref A :: av) M Q) (h9 : ∀ (M : gM) (R : Int32 → gM → Prop) (Q : Option Value → gM → Prop), Mo M (A + 329) → P9 M R → (∀ v M1, Sl M M1 → R v M1 → Q (some (.int v)) M1) → Cn X 1311 0 0 k2 (.ref (A + 329) :: av) M Q) (hs : ∀ r lw H im ilw bt ln fr dr ms, PVs r lw H im ilw → ∃ ans : Int32, (∀ M, IC M A r lw H im ilw bt ln fr dr ms → ∀ R : Int32 → gM → Prop, (∀ M1, Q8 A M M1 → R ans M1) → P8 M R) ∧ ∀ M, IR M (A + 329) r H im bt ln fr dr ms → ∀ R : Int32 → gM → Prop, (∀ M1, Q9 A M M1 → R ans M1) → P9 M R) : Ob X 1311 0 0 k1 k2 (INV A) A (A + 329) av := by
  refine ob_gen h8 h9 (fun M r lw H im ilw bt ln fr dr ms hp hc => ?_)
  obtain ⟨ans, s8, s9⟩ := hs r lw H im ilw bt ln fr dr ms hp
  refine s8 M hc _ (fun M1 q8 => ⟨fun c h1 h2 => by funext j; exact q8 c j (Or.inr ⟨h1, h2⟩), r, lw, H, im, ilw, bt, ln, fr, dr, ms, hp, fun s => hc.kee s (fun c j q => q8 c j (Or.inl q)), fun M2 hr => ?_⟩)
  exact s9 M2 hr _ (fun M3 q9 => ⟨rfl, fun c h => by funext j; exact q9 c j (Or.inr h), fun s => hr.kee s (fun c j q => q9 c j (Or.inl q))⟩)
end OBS
section OBI
variable {A : Nat} {M : gM} {r : Nat → Int} {lw : LWs} {H : List ((Nat → Int) × Int)} {im : Nat → Option (Nat → Int)} {ilw : Nat → LWs} {bt : Nat → Int} {ln : Nat} {fr dr ms : Nat → Int32}
theorem IC.rs (h : IC M A r lw H im ilw bt ln fr dr ms) : RS M (A + 1 + 1) r := h.2.1.1
theorem IC.law (hp : PVs r lw H im ilw) (h : IC M A r lw H im ilw bt ln fr dr ms) {x : Int} (x0 : -1 ≤ x) (x1 : x < r 203) : FC M A (iZ x) (lwA lw x) := FC_of hp.1 hp.2.1 h.2.1 h.2.2.1 x0 x1
theorem IC.fc (hp : PVs r lw H im ilw) (h : IC M A r lw H im ilw bt ln fr dr ms) : FC M A (g_mi M (A + 1) 6) (lwA lw (r 204)) := by
  rw [h.2.1.2.2.2.1]
  exact h.law hp hp.1.f.1 hp.1.f.2
theorem PVs.fl (hp : PVs r lw H im ilw) : FL r (lwA lw (r 204)) := FL_of hp.1 hp.2.1
end OBI
theorem i32x (x : Int32) : ∃ y : Int, x = iZ y ∧ -2147483648 ≤ y ∧ y < 2147483648 := ⟨x.toInt, iZ_to x, iZ_b1 x, iZ_b2 x⟩
section OB1
variable {X : gX} {A : Nat} {x1 x2 : Int32}
theorem Fk.q8 {M M1 : gM} (h : Fk (A + 274) M M1) : Q8 A M M1 := fun c j q => by rw [h c (by unfold pcA at q; omega) (by unfold pcA at q; omega) (by unfold pcA at q; omega) (by unfold pcA at q; omega)]
theorem Fw.q8 {M M1 : gM} (h : Fw (A + 271) M M1) : Q8 A M M1 := fun c j q => by rw [h c (by unfold pcA at q; omega) (by unfold pcA at q; omega)]
theorem Fpl.q8 {M M1 : gM} (h : Fpl (A + 274) M M1) : Q8 A M M1 := fun c j q => by rw [h c (by unfold pcA at q; omega)]
theorem Fqr.q9 {M M1 : gM} (h : Fqr (A + 329) M M1) : Q9 A M M1 := fun c j q => by unfold prB at q; exact h c j (by omega) (by omega) (by omega) (by omega) (by omega) (by omega) (by omega)
theorem Fap.q9 {M M1 : gM} (h : Fap (A + 329) M M1) : Q9 A M M1 := fun c j q => by unfold prB at q; exact h c j (by omega) (by omega)
theorem Fa9.q9 {M M1 : gM} (h : Fa9 (A + 329) M M1) : Q9 A M M1 := fun c j q => by unfold prB at q; exact h c j (by omega) (by omega)
theorem Q8.rf {M : gM} : Q8 A M M := fun _ _ _ => rfl
theorem Q9.rf {M : gM} : Q9 A M M := fun _ _ _ => rfl
theorem ob_key : Ob X 1311 0 0 kX8_key kX9_key (INV A) A (A + 329) [.int x1, .int x2] := by
  obtain ⟨x, rfl, b1, b2⟩ := i32x x1
  obtain ⟨y, rfl, c1, c2⟩ := i32x x2
  refine ob_q (P8 := fun M R => pX8_key 20000 1290 M A (iZ x) (iZ y) R) (P9 := fun M R => pX9_key 20000 1290 M (A + 329) (iZ x) (iZ y) R) (fun M R Q s hh hR => uX8_key (d := 1308) s hh (fun v M1 j h => hR v M1 j.l h)) (fun M R Q s hh hR => Cn.cd (show 12 + 1290 + 9 = 1311 by omega) (uX9_key (d := 12) (K := 1290) s hh (fun v M1 j h => hR v M1 (j.l) h))) (fun r lw H im ilw bt ln fr dr ms hp => ⟨iZ (keA (lwA lw (r 204)) r x y), fun M hc R hR => ?_, fun M hr R hR => ?_⟩)
  · exact ke_8 (by omega) hp.1.k hp.1.m hc.rs.1 hc.rs.2.2.1 (hc.fc hp) b1 b2 c1 c2 (fun M1 f1 => hR M1 f1.q8)
  · exact ke_9 (by omega) (by omega) hp.1.k hp.1.m hr.2.1 hp.fl b1 b2 c1 c2 (fun M1 f1 => hR M1 f1.q9)
theorem ob_vertex : Ob X 1311 0 0 kX8_vertex kX9_vertex (INV A) A (A + 329) [.int x1, .int x2] := by
  obtain ⟨x, rfl, b1, b2⟩ := i32x x1
  obtain ⟨y, rfl, c1, c2⟩ := i32x x2
  refine ob_q (P8 := fun M R => pX8_vertex 20000 1290 M A (iZ x) (iZ y) R) (P9 := fun M R => pX9_vertex 20000 1290 M (A + 329) (iZ x) (iZ y) R) (fun M R Q s hh hR => uX8_vertex (d := 1308) s hh (fun v M1 j h => hR v M1 j.l h)) (fun M R Q s hh hR => Cn.cd (show 12 + 1290 + 9 = 1311 by omega) (uX9_vertex (d := 12) (K := 1290) s hh (fun v M1 j h => hR v M1 (j.l) h))) (fun r lw H im ilw bt ln fr dr ms hp => ⟨iZ (veA (lwA lw (r 204)) r x y), fun M hc R hR => ?_, fun M hr R hR => ?_⟩)
  · exact ve_8 (by omega) hp.1.k hp.1.m hc.rs.1 hc.rs.2.2.1 (hc.fc hp) b1 b2 c1 c2 (fun M1 f1 => hR M1 f1.q8)
  · exact ve_9 (by omega) (by omega) hp.1.k hp.1.m hr.2.1 hp.fl b1 b2 c1 c2 (fun M1 f1 => hR M1 f1.q9)
theorem ob_core : Ob X 1311 0 0 kX8_core kX9_core (INV A) A (A + 329) [.int x1] := by
  obtain ⟨x, rfl, b1, b2⟩ := i32x x1
  refine ob_q (P8 := fun M R => pX8_core 20000 1290 M A (iZ x) R) (P9 := fun M R => pX9_core 20000 1290 M (A + 329) (iZ x) R) (fun M R Q s hh hR => uX8_core (d := 1308) s hh (fun v M1 j h => hR v M1 j.l h)) (fun M R Q s hh hR => uX9_core (d := 1307) s hh (fun v M1 j h => hR v M1 (j.l) h)) (fun r lw H im ilw bt ln fr dr ms hp => ⟨iZ (coA r x), fun M hc R hR => ?_, fun M hr R hR => ?_⟩)
  · exact co_8 (by omega) hp.1.k hc.rs.1 b1 b2 (fun M1 f1 => hR M1 f1.q8)
  · exact co_9 (by omega) hp.1.k hr.2.1 b1 b2 (fun M1 f1 => hR M1 f1.q9)
theorem ob_good : Ob X 1311 0 0 kX8_good kX9_good (INV A) A (A + 329) [.int x1] := by
  obtain ⟨x, rfl, b1, b2⟩ := i32x x1
  refine ob_q (P8 := fun M R => pX8_good 20000 1290 M A (iZ x) R) (P9 := fun M R => pX9_good 20000 1290 M (A + 329) (iZ x) R) (fun M R Q s hh hR => uX8_good (d := 1307) s hh (fun v M1 j h => hR v M1 j.l h)) (fun M R Q s hh hR => uX9_good (d := 1307) s hh (fun v M1 j h => hR v M1 (j.l) h)) (fun r lw H im ilw bt ln fr dr ms hp => ⟨iZ (gdA r x), fun M hc R hR => ?_, fun M hr R hR => ?_⟩)
  · exact gd_8 (by omega) hp.1.k hc.rs.1 b1 b2 (fun M1 f1 => hR M1 f1.q8)
  · exact gd_9 (by omega) hp.1.k hr.2.1 b1 b2 (fun M1 f1 => hR M1 f1.q9)
theorem ob_leastSide : Ob X 1311 0 0 kX8_leastSide kX9_leastSide (INV A) A (A + 329) [] := by
  refine ob_q (P8 := fun M R => pX8_leastSide 20000 1290 M A R) (P9 := fun M R => pX9_leastSide 20000 1290 M (A + 329) R) (fun M R Q s hh hR => uX8_leastSide (d := 1307) s hh (fun v M1 j h => hR v M1 j.l h)) (fun M R Q s hh hR => uX9_leastSide (d := 1306) s hh (fun v M1 j h => hR v M1 (j.l) h)) (fun r lw H im ilw bt ln fr dr ms hp => ⟨iZ (lsF r 19 2), fun M hc R hR => ?_, fun M hr R hR => ?_⟩)
  · exact ls_8 (by omega) hp.1.k hc.rs.1 (fun M1 f1 => hR M1 f1.q8)
  · refine ls_9 (by omega) hp.1.k hr.2.1 (fun M1 f1 r1 => hR M1 (fun c j q => ?_))
    by_cases e : c = A + 329 + 2 ∧ j < 5812
    · obtain ⟨rfl, e2⟩ := e
      rw [r1 j e2, hr.2.1 j e2]
    · unfold prB at q
      exact f1 c j (by omega) (by omega) (by omega) (by omega) (by omega) (by omega) (by omega) (by omega)
theorem ob_peeled : Ob X 1311 0 0 kX8_peeled kX9_peeled (INV A) A (A + 329) [.int x1, .int x2] := by
  obtain ⟨x, rfl, b1, b2⟩ := i32x x1
  obtain ⟨y, rfl, c1, c2⟩ := i32x x2
  refine ob_q (P8 := fun M R => pX8_peeled 20000 1290 M A (iZ x) (iZ y) R) (P9 := fun M R => pX9_peeled 20000 1290 M (A + 329) (iZ x) (iZ y) R) (fun M R Q s hh hR => uX8_peeled (d := 1307) s hh (fun v M1 j h => hR v M1 j.l h)) (fun M R Q s hh hR => Cn.cd (show 11 + 1290 + 10 = 1311 by omega) (uX9_peeled (d := 11) (K := 1290) s hh (fun v M1 j h => hR v M1 (j.l) h))) (fun r lw H im ilw bt ln fr dr ms hp => ⟨iZ (plA (lwA lw (r 204)) r x y), fun M hc R hR => ?_, fun M hr R hR => ?_⟩)
  · exact pd_8 (by omega) hp.1.k hp.1.m hc.rs.1 hc.rs.2.2.1 (hc.fc hp) b1 b2 c1 c2 (fun M1 f1 => hR M1 f1.q8)
  · exact pd_9 (by omega) (by omega) hp.1.k hp.1.m hr.2.1 hp.fl b1 b2 c1 c2 (fun M1 f1 => hR M1 f1.q9)
theorem ob_found : Ob X 1311 0 0 kX8_found kX9_found (INV A) A (A + 329) [.int x1, .int x2] := by
  obtain ⟨x, rfl, b1, b2⟩ := i32x x1
  obtain ⟨y, rfl, c1, c2⟩ := i32x x2
  refine ob_q (P8 := fun M R => pX8_found 20000 1290 M A (iZ x) (iZ y) (fun v => R v M)) (P9 := fun M R => pX9_found 20000 1290 M (A + 329) (iZ x) (iZ y) (fun v => R v M)) (fun M R Q s hh hR => uX8_found (d := 1308) s hh (fun v h => hR v M ⟨rfl, rfl, rfl⟩ h)) (fun M R Q s hh hR => uX9_found (d := 1308) s hh (fun v h => hR v M ⟨rfl, rfl, rfl⟩ h)) (fun r lw H im ilw bt ln fr dr ms hp => ⟨iZ (fdA r x y), fun M hc R hR => ?_, fun M hr R hR => ?_⟩)
  · exact fd_8 (by omega) hp.1.t hc.rs.2.2.2 b1 b2 c1 c2 (hR M Q8.rf)
  · exact fd_9 (by omega) hp.1.t hr.2.1 b1 b2 c1 c2 (hR M Q9.rf)
theorem ob_table : Ob X 1311 0 0 kX8_table kX9_table (INV A) A (A + 329) [.int x1] := by
  obtain ⟨x, rfl, b1, b2⟩ := i32x x1
  refine ob_q (P8 := fun M R => pX8_table 20000 1290 M A (iZ x) (fun v => R v M)) (P9 := fun M R => pX9_table 20000 1290 M (A + 329) (iZ x) (fun v => R v M)) (fun M R Q s hh hR => uX8_table (d := 1309) s hh (fun v h => hR v M ⟨rfl, rfl, rfl⟩ h)) (fun M R Q s hh hR => uX9_table (d := 1309) s hh (fun v h => hR v M ⟨rfl, rfl, rfl⟩ h)) (fun r lw H im ilw bt ln fr dr ms hp => ⟨iZ (tbA r x), fun M hc R hR => ?_, fun M hr R hR => ?_⟩)
  · exact tb_8 (by omega) hp.1.t hc.rs.2.2.2 b1 b2 (hR M Q8.rf)
  · exact tb_9 (by omega) hp.1.t hr.2.1 b1 b2 (hR M Q9.rf)
theorem ob_twin : Ob X 1311 0 0 kX8_twin kX9_twin (INV A) A (A + 329) [.int x1] := by
  obtain ⟨x, rfl, b1, b2⟩ := i32x x1
  refine ob_q (P8 := fun M R => pX8_twin 20000 1290 M A (iZ x) (fun v => R v M)) (P9 := fun M R => pX9_twin 20000 1290 M (A + 329) (iZ x) (fun v => R v M)) (fun M R Q s hh hR => uX8_twin (d := 1308) s hh (fun v h => hR v M ⟨rfl, rfl, rfl⟩ h)) (fun M R Q s hh hR => uX9_twin (d := 1307) s hh (fun v h => hR v M ⟨rfl, rfl, rfl⟩ h)) (fun r lw H im ilw bt ln fr dr ms hp => ⟨iZ (twA r x), fun M hc R hR => ?_, fun M hr R hR => ?_⟩)
  · exact tw_8 (by omega) hp.1.t hc.rs.2.2.2 b1 b2 (hR M Q8.rf)
  · exact tw_9 (by omega) hp.1.t hr.2.1 b1 b2 (hR M Q9.rf)
theorem ob_compare : Ob X 1311 0 0 kX8_compare kX9_compare (INV A) A (A + 329) [.int x1, .int x2] := by
  obtain ⟨x, rfl, b1, b2⟩ := i32x x1
  obtain ⟨y, rfl, c1, c2⟩ := i32x x2
  refine ob_q (P8 := fun M R => pX8_compare 20000 1290 M A (iZ x) (iZ y) R) (P9 := fun M R => pX9_compare 20000 1290 M (A + 329) (iZ x) (iZ y) R) (fun M R Q s hh hR => uX8_compare (d := 1308) s hh (fun v M1 j h => hR v M1 j.l h)) (fun M R Q s hh hR => Cn.cd (show 12 + 1290 + 9 = 1311 by omega) (uX9_compare (d := 12) (K := 1290) s hh (fun v M1 j h => hR v M1 (j.l) h))) (fun r lw H im ilw bt ln fr dr ms hp => ⟨iZ (cmA (lwA lw x) r x y), fun M hc R hR => ?_, fun M hr R hR => ?_⟩)
  · exact cm_8 (by omega) hp.1.k hp.1.m hc.rs.1 hc.rs.2.2.1 hc.2.1.2.2.1 hp.1.l.1 hp.1.l.2 (fun x0 x1 => hc.law hp x0 x1) b1 b2 c1 c2 (fun M1 f1 => hR M1 f1.q8)
  · have lv := hp.1.l
    refine cm_9 (by omega) (by omega) hp.1.k hp.1.m hr.2.1 hp.1.l.1 hp.1.l.2 (fun x0 x1 => ?_) b1 b2 c1 c2 (fun M1 f1 r1 => hR M1 (fun c j q => ?_))
    · unfold lwA
      by_cases c : x < 0
      · rw [if_pos c]
        exact Or.inl ⟨by rw [up_eq]; omega, rfl⟩
      · rw [if_neg c]
        exact Or.inr ⟨x.toNat, by omega, by rw [up_eq]; omega, (hp.2.1 x.toNat (by omega)).1.up⟩
    · by_cases e : c = A + 329 + 2 ∧ j < 5812
      · obtain ⟨rfl, e2⟩ := e
        rw [r1 j e2, hr.2.1 j e2]
      · unfold prB at q
        exact f1 c j (by omega) (by omega) (by omega)
end OB1
