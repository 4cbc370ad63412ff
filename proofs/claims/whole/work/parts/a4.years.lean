/-! Calls: years. -/
def ndF (x : Int) : Int := (x * 1103 + 12345) % 1000003
theorem ndF_b (x : Int) : 0 ≤ ndF x ∧ ndF x < 1000003 := by unfold ndF; omega
theorem nd_8 {x : Int} (x0 : 0 ≤ x) (x1 : x ≤ 1000002) : fX8_nextDrawing (iZ x) = iZ (ndF x) := by
  have b := ndF_b x
  unfold fX8_nextDrawing
  rw [iL_z (by omega) (by omega), show (1103 : Int64) = iL 1103 from rfl, show (12345 : Int64) = iL 12345 from rfl, show (1000003 : Int64) = iL 1000003 from rfl, iL_mul, iL_add, iL_rm (by omega) (by omega) (by omega) (by omega), Int.tmod_eq_emod_of_nonneg (by omega)]
  exact iZ_L (by unfold ndF at b; omega) (by unfold ndF at b; omega)
theorem nd_9 {x : Int} (x0 : 0 ≤ x) (x1 : x ≤ 1000002) : (l_rm ((1103 * ((iZ x).toInt64)) + 12345) 1000003).toInt32 = iZ (ndF x) := by
  have b := ndF_b x
  rw [iL_z (by omega) (by omega), show (1103 : Int64) = iL 1103 from rfl, show (12345 : Int64) = iL 12345 from rfl, show (1000003 : Int64) = iL 1000003 from rfl, iL_mul, iL_add, iL_rm (by omega) (by omega) (by omega) (by omega), Int.tmod_eq_emod_of_nonneg (by omega), Int.mul_comm 1103 x]
  exact iZ_L (by unfold ndF at b; omega) (by unfold ndF at b; omega)
def ykF (x : Int) : Nat := if x % 8 < 5 then 0 else if x % 8 = 5 then 1 else 4
def yrN (cs : List (Nat × Cl)) : Nat → (Nat → Int) → Int → (Nat → Int)
  | 0, r, _ => r
  | n + 1, r, x => yrN cs n (acA cs r (ykF (ndF (ndF x))) (ndF x % 40)).2 (ndF (ndF x))
section YRN
variable {cs : List (Nat × Cl)}
theorem yrN_V : ∀ (n : Nat) (r : Nat → Int) (x : Int), Vk r → Vt r → Vk (yrN cs n r x) ∧ Vt (yrN cs n r x) ∧ ∀ i, 188 ≤ i → yrN cs n r x i = r i := by
  intro n
  induction n with
  | zero => intro r x hV hT; exact ⟨hV, hT, fun _ _ => rfl⟩
  | succ n ih =>
    intro r x hV hT
    rw [yrN]
    obtain ⟨i1, i2, i3⟩ := ih (acA cs r (ykF (ndF (ndF x))) (ndF x % 40)).2 (ndF (ndF x)) (acA_V hV) (acA_T hV hT)
    exact ⟨i1, i2, fun i hi => by rw [i3 i hi]; exact acA_hi hV hi⟩
end YRN
section YR8
variable {N K A : Nat} {cs : List (Nat × Cl)}
def Fyr (A : Nat) (M M1 : gM) : Prop := ∀ c, (c < A + 264 ∨ A + 281 < c) → g_mi M1 c = g_mi M c
theorem yr_8 {M0 : gM} {R : Int32 → gM → Prop} {n : Nat} (hN : 500 ≤ N) (hn : n ≤ 60) (hF : FC M0 A (g_mi M0 (A + 1) 6) cs) : ∀ (e y g : Nat) (M : gM) (r : Nat → Int) (x : Int), y + e = n → e + 100 ≤ g → Vk r → Vt r → Vm r → 0 ≤ x → x ≤ 1000002 → RS M (A + 264) r → Fyr A M0 M → Sl M0 M → (∀ M1 g1, Fyr A M0 M1 → Sl M0 M1 → RS M1 (A + 264) (yrN cs e r x) → 50 ≤ g1 → qX8_years N K R g1 1 M1 A 0 0 0) → qX8_years N K R g 0 M A (iZ n) (iZ x) (iZ y) := by
  have fa := hF.2.2.1
  intro e
  induction e with
  | zero =>
    intro y g M r x hy hg hV hT hm x0 x1 hR f hs hE
    obtain ⟨g2, rfl⟩ : ∃ g2, g = g2 + 1 := ⟨g - 1, by omega⟩
    rw [qX8_years, if_pos rfl]
    unfold pX8_years_47
    have c1 : iZ (n : Int) ≤ iZ (y : Int) := by rw [iZ_le (by omega) (by omega) (by omega) (by omega)]; omega
    exact ⟨fun _ => hE M g2 f hs hR (by omega), fun z => absurd c1 z⟩
  | succ e ih =>
    intro y g M r x hy hg hV hT hm x0 x1 hR f hs hE
    obtain ⟨g2, rfl⟩ : ∃ g2, g = g2 + 1 := ⟨g - 1, by omega⟩
    rw [qX8_years, if_pos rfl]
    unfold pX8_years_47
    have c1 : ¬ iZ (n : Int) ≤ iZ (y : Int) := by rw [iZ_le (by omega) (by omega) (by omega) (by omega)]; omega
    refine ⟨fun z => absurd z c1, fun _ v1 hv1 v2 hv2 => ?_⟩
    rw [nd_8 x0 x1] at hv1
    have b1 := ndF_b x
    rw [hv1, nd_8 (by omega) (by omega)] at hv2
    have b2 := ndF_b (ndF x)
    subst hv1
    subst hv2
    have e8 : i_rm (iZ (ndF (ndF x))) 8 = iZ (ndF (ndF x) % 8) := by rw [iZ_l8, iZ_rm (by omega) (by omega) (by omega) (by omega), Int.tmod_eq_emod_of_nonneg (by omega)]
    have e40 : i_rm (iZ (ndF x)) 40 = iZ (ndF x % 40) := by rw [iZ_l40, iZ_rm (by omega) (by omega) (by omega) (by omega), Int.tmod_eq_emod_of_nonneg (by omega)]
    have e6 : g_mi M (A + 1) = g_mi M0 (A + 1) := f _ (by omega)
    have F1 : FC M A (g_mi M (A + 1) 6) cs := by
      rw [e6]
      exact hF.keep hs (by rw [e6]) (fun c q1 q2 => f c (by omega))
    rw [e8, e40, iZ_l5, iZ_le (by omega) (by omega) (by omega) (by omega), iZ_eq (by omega) (by omega) (by omega) (by omega), iZ_s1]
    rw [yrN] at hE
    have go : ∀ kd : Nat, kd ≤ 4 → ykF (ndF (ndF x)) = kd → pX8_carryOut N K M A (A + 264) (iZ kd) (iZ (ndF x % 40)) (fun v M1 => Sl M M1 → qX8_years N K R g2 0 M1 A (iZ n) (iZ (ndF (ndF x))) (iZ ((y + 1 : Nat) : Int))) := fun kd hk he => by
      rw [he] at hE
      refine ca_8 hN hV hT hm hR (by omega) (by omega) F1 hk (by omega) (by omega) (fun M1 f1 S1 s1 => ?_)
      have hh := fun i (h : 188 ≤ i) => acA_hi (cs := cs) (kind := kd) (x := ndF x % 40) hV h
      exact ih (y + 1) g2 M1 _ _ (by omega) (by omega) (acA_V hV) (acA_T hV hT) (by unfold Vm at hm ⊢; rw [hh 201 (by omega)]; exact hm) (by omega) (by omega) S1 (fun c q => by rw [f1 c (by omega) (by omega), f c q]) (Sl.tr hs s1) hE
    refine ⟨fun z => ⟨fun z2 => go 4 (by omega) ?_, fun z2 => go 1 (by omega) ?_⟩, fun z => go 0 (by omega) ?_⟩
    · unfold ykF; rw [if_neg (by omega), if_neg z2]
    · unfold ykF; rw [if_neg (by omega), if_pos z2]
    · unfold ykF; rw [if_pos (by omega)]
theorem yd_8 {M0 : gM} {R : Int32 → gM → Prop} {r : Nat → Int} (hN : 500 ≤ N) (hV : Vk r) (hT : Vt r) (hR : RS M0 (A + 264) r) (hE : ∀ M1, (∀ c, c ≠ A + 303 → g_mi M1 c = g_mi M0 c) → (∀ i : Nat, i < 40 → g_mi M1 (A + 303) i = iZ (nuF r i)) → pX8_accept N K M1 A (g_mi M1 (A + 264) 3) (fun v1 M2 => Sl M1 M2 → R v1 M2)) : ∀ (e i g : Nat) (M : gM), i + e = 40 → e + 1 ≤ g → (∀ c, c ≠ A + 303 → g_mi M c = g_mi M0 c) → (∀ j : Nat, j < i → g_mi M (A + 303) j = iZ (nuF r j)) → qX8_years N K R g 1 M A 0 0 (iZ i) := by
  intro e
  induction e with
  | zero =>
    intro i g M hi hg f hd
    obtain ⟨g2, rfl⟩ : ∃ g2, g = g2 + 1 := ⟨g - 1, by omega⟩
    rw [qX8_years, if_neg (by decide)]
    unfold pX8_years_116
    have c1 : (40 : Int32) ≤ iZ (i : Int) := by rw [iZ_l40, iZ_le (by omega) (by omega) (by omega) (by omega)]; omega
    exact ⟨fun _ => hE M f (fun j hj => hd j (by omega)), fun z => absurd c1 z⟩
  | succ e ih =>
    intro i g M hi hg f hd
    obtain ⟨g2, rfl⟩ : ∃ g2, g = g2 + 1 := ⟨g - 1, by omega⟩
    rw [qX8_years, if_neg (by decide)]
    unfold pX8_years_116
    have c1 : ¬ (40 : Int32) ≤ iZ (i : Int) := by rw [iZ_l40, iZ_le (by omega) (by omega) (by omega) (by omega)]; omega
    have R2 : RS M (A + 264) r := hR.keep (fun c q1 q2 => f c (by omega))
    refine ⟨fun z => absurd z c1, fun _ => nu_8 hN hT R2.2.2.2 (by omega) (by omega) ⟨iZ_in (by omega) (by omega) (by omega), fun M2 h2 => ?_⟩⟩
    rw [iZ_cl (show i < 2147483648 by omega)] at h2
    obtain ⟨a1, a2, a3⟩ := wi_k h2
    rw [iZ_s1]
    refine ih (i + 1) g2 M2 (by omega) (by omega) (fun c q => by rw [a1 c q, f c q]) (fun j hj => ?_)
    by_cases q : j = i
    · subst q; exact a3
    · rw [a2 j q]; exact hd j (by omega)
end YR8
section YR9
variable {N K b : Nat} {cs : List (Nat × Cl)}
def Fyr9 (b : Nat) (M M1 : gM) : Prop := ∀ c j, c ≠ b + 2 → (c < b + 12 ∨ b + 18 < c) → (c ≠ b ∨ (j ≠ 22 ∧ j ≠ 23 ∧ j ≠ 24 ∧ j ≠ 25 ∧ j ≠ 35 ∧ j ≠ 49)) → g_mi M1 c j = g_mi M c j
theorem dw_9 {M : gM} {R : Int32 → gM → Prop} {x : Int} {m : Nat} (hm : m = 40 ∨ m = 8) (x0 : 0 ≤ x) (x1 : x ≤ 1000002) (h49 : g_mi M b 49 = iZ x) (hE : ∀ M1, (∀ c j, (c ≠ b ∨ j ≠ 49) → g_mi M1 c j = g_mi M c j) → g_mi M1 b 49 = iZ (ndF x) → R (iZ (ndF x % m)) M1) : pX9_draws N K M b (iZ m) R := by
  unfold pX9_draws
  intro M1 h1
  have bb := ndF_b x
  rw [h49, nd_9 x0 x1] at h1
  obtain ⟨a1, a2, a3⟩ := wi_k h1
  rw [a3, iZ_rm (by omega) (by omega) (by omega) (by omega), Int.tmod_eq_emod_of_nonneg (by omega)]
  refine ⟨by rw [iZ_l0, iZ_eq (by omega) (by omega) (by omega) (by omega)]; omega, hE M1 (fun c j q => ?_) a3⟩
  by_cases w : c = b
  · subst w; exact a2 j (by omega)
  · rw [a1 c w]
theorem yr_9 {M0 : gM} {R : Int32 → gM → Prop} {n : Nat} (hN : 4000 ≤ N) (hK : 500 ≤ K) (hn : n ≤ 60) : ∀ (e y g : Nat) (M : gM) (r : Nat → Int) (x : Int), y + e = n → e + 100 ≤ g → Vk r → Vt r → Vm r → FL r cs → 0 ≤ x → x ≤ 1000002 → Rr M b r → g_mi M b 49 = iZ x → Fyr9 b M0 M → (∀ M1 g1, Fyr9 b M0 M1 → Rr M1 b (yrN cs e r x) → 50 ≤ g1 → qX9_years N K R g1 1 M1 b 0 (g_mi M1 (b + 2) 0) 0) → qX9_years N K R g 0 M b (iZ n) (iZ y) 0 := by
  intro e
  induction e with
  | zero =>
    intro y g M r x hy hg hV hT hm hF x0 x1 hR h49 f hE
    obtain ⟨g2, rfl⟩ : ∃ g2, g = g2 + 1 := ⟨g - 1, by omega⟩
    rw [qX9_years, if_pos rfl]
    unfold pX9_years_43
    have c1 : iZ (n : Int) ≤ iZ (y : Int) := by rw [iZ_le (by omega) (by omega) (by omega) (by omega)]; omega
    exact ⟨fun _ => hE M g2 f hR (by omega), fun z => absurd c1 z⟩
  | succ e ih =>
    intro y g M r x hy hg hV hT hm hF x0 x1 hR h49 f hE
    obtain ⟨g2, rfl⟩ : ∃ g2, g = g2 + 1 := ⟨g - 1, by omega⟩
    rw [qX9_years, if_pos rfl]
    unfold pX9_years_43
    have c1 : ¬ iZ (n : Int) ≤ iZ (y : Int) := by rw [iZ_le (by omega) (by omega) (by omega) (by omega)]; omega
    have b1 := ndF_b x
    have b2 := ndF_b (ndF x)
    refine ⟨fun z => absurd z c1, fun _ => ?_⟩
    unfold pX9_drawnAct
    rw [show (40 : Int32) = iZ ((40 : Nat) : Int) from rfl, show (8 : Int32) = iZ ((8 : Nat) : Int) from rfl]
    refine dw_9 (Or.inl rfl) x0 x1 h49 (fun M1 k1 d1 => dw_9 (Or.inr rfl) (by omega) (by omega) d1 (fun M2 k2 d2 => ?_))
    have kk : ∀ c j, (c ≠ b ∨ j ≠ 49) → g_mi M2 c j = g_mi M c j := fun c j q => by rw [k2 c j q, k1 c j q]
    have R2 : Rr M2 b r := hR.kp (by funext j; exact kk _ _ (by omega))
    rw [yrN] at hE
    rw [iZ_s1]
    have fin : ∀ (kd : Nat) (M3 : gM), ykF (ndF (ndF x)) = kd → Fbd b M2 M3 → Rr M3 b (acA cs r kd (ndF x % 40)).2 → qX9_years N K R g2 0 M3 b (iZ n) (iZ ((y + 1 : Nat) : Int)) 0 := fun kd M3 he f3 R3 => by
      rw [he] at hE
      have hh := fun i (h : 188 ≤ i) => acA_hi (cs := cs) (kind := kd) (x := ndF x % 40) hV h
      refine ih (y + 1) g2 M3 _ _ (by omega) (by omega) (acA_V hV) (acA_T hV hT) (by unfold Vm at hm ⊢; rw [hh 201 (by omega)]; exact hm) (hF.cg (fun i h1 _ => hh i (by omega))) (by omega) (by omega) R3 (by rw [f3 _ _ (by omega) (by omega) (by omega)]; exact d2) (fun c j q1 q2 q3 => ?_) hE
      rw [f3 c j q1 q2 (by omega), kk c j (by omega), f c j q1 q2 q3]
    have bd : ykF (ndF (ndF x)) = 4 → pX9_builds N K M2 b (fun v M3 => qX9_years N K R g2 0 M3 b (iZ n) (iZ ((y + 1 : Nat) : Int)) 0) := fun he => bd_9 (by omega) hK hV hm R2 hF (fun M3 f3 R3 => fin 4 M3 he f3 R3)
    have e5 : (iZ (ndF (ndF x) % ((8 : Nat) : Int)) = 5) = (ndF (ndF x) % 8 = 5) := by rw [iZ_l5, iZ_eq (by omega) (by omega) (by omega) (by omega)]; rfl
    have e6 : (iZ (ndF (ndF x) % ((8 : Nat) : Int)) = 6) = (ndF (ndF x) % 8 = 6) := by rw [iZ_l6, iZ_eq (by omega) (by omega) (by omega) (by omega)]; rfl
    have e7 : (iZ (ndF (ndF x) % ((8 : Nat) : Int)) = 7) = (ndF (ndF x) % 8 = 7) := by rw [iZ_l7, iZ_eq (by omega) (by omega) (by omega) (by omega)]; rfl
    rw [e5, e6, e7]
    refine ⟨fun z => ?_, fun z => ⟨fun z2 => bd ?_, fun z2 => ⟨fun z3 => bd ?_, fun z3 => ?_⟩⟩⟩
    · obtain ⟨t1, t2, t3, t4⟩ := take_9 (N := N) (k := ndF x % 40) (by omega) hV R2 (by omega) (by omega)
      refine ⟨t1, fun v3 hv3 M3 h3 => fin 1 M3 (by unfold ykF; rw [if_neg (by omega), if_pos z]) ?_ ?_⟩
      · intro c j q1 q2 q3
        rw [h3]; exact t4.at (by omega) j
      · rw [h3]; exact t3
    · unfold ykF; rw [if_neg (by omega), if_neg (by omega)]
    · unfold ykF; rw [if_neg (by omega), if_neg (by omega)]
    · refine ad_9 (by omega) hK hV hm R2 hF (by omega) (by omega) (fun M3 f3 R3 => fin 0 M3 (by unfold ykF; rw [if_pos (by omega)]) (fun c j q1 q2 q3 => f3 c j q1 (by omega) (by omega)) R3)
theorem yd_9 {M0 : gM} {R : Int32 → gM → Prop} {r : Nat → Int} {x3 : Int32} (hN : 500 ≤ N) (hV : Vk r) (hT : Vt r) (hR : Rr M0 b r) (hE : ∀ M1, (∀ c, c ≠ b + 23 → g_mi M1 c = g_mi M0 c) → (∀ i : Nat, i < 40 → g_mi M1 (b + 23) i = iZ (nuF r i)) → pX9_takesBack N K M1 b 0 (fun M2 => pX9_good0 N K M2 b x3 (fun v1 M3 => R v1 M3))) : ∀ (e i g : Nat) (M : gM), i + e = 40 → e + 1 ≤ g → (∀ c, c ≠ b + 23 → g_mi M c = g_mi M0 c) → (∀ j : Nat, j < i → g_mi M (b + 23) j = iZ (nuF r j)) → qX9_years N K R g 1 M b 0 x3 (iZ i) := by
  intro e
  induction e with
  | zero =>
    intro i g M hi hg f hd
    obtain ⟨g2, rfl⟩ : ∃ g2, g = g2 + 1 := ⟨g - 1, by omega⟩
    rw [qX9_years, if_neg (by decide)]
    unfold pX9_years_68
    have c1 : (40 : Int32) ≤ iZ (i : Int) := by rw [iZ_l40, iZ_le (by omega) (by omega) (by omega) (by omega)]; omega
    exact ⟨fun _ => hE M f (fun j hj => hd j (by omega)), fun z => absurd c1 z⟩
  | succ e ih =>
    intro i g M hi hg f hd
    obtain ⟨g2, rfl⟩ : ∃ g2, g = g2 + 1 := ⟨g - 1, by omega⟩
    rw [qX9_years, if_neg (by decide)]
    unfold pX9_years_68
    have c1 : ¬ (40 : Int32) ≤ iZ (i : Int) := by rw [iZ_l40, iZ_le (by omega) (by omega) (by omega) (by omega)]; omega
    have en : fdA r i 1 = nuF r i := by
      unfold fdA
      by_cases z : r 33 = 0
      · rw [if_pos z]; unfold nuF; rw [if_pos z]
      · rw [if_neg z, if_pos (by omega), if_neg (by omega), if_pos rfl]
    refine ⟨fun z => absurd z c1, fun _ => ?_⟩
    rw [iZ_l1]
    refine fd_9 hN hT (hR.kp (f _ (by omega))) (by omega) (by omega) (by omega) (by omega) ⟨iZ_in (by omega) (by omega) (by omega), fun M2 h2 => ?_⟩
    rw [iZ_cl (show i < 2147483648 by omega), en] at h2
    obtain ⟨a1, a2, a3⟩ := wi_k h2
    rw [← iZ_l1, iZ_s1]
    refine ih (i + 1) g2 M2 (by omega) (by omega) (fun c q => by rw [a1 c q, f c q]) (fun j hj => ?_)
    by_cases q : j = i
    · subst q; exact a3
    · rw [a2 j q]; exact hd j (by omega)
end YR9
section OBY
variable {X : gX} {A : Nat} {x1 x2 : Int32}
theorem ob_years : Ob X 1311 0 0 kX8_years kX9_years (INV A) A (A + 329) [.int x1, .int x2] := by
  obtain ⟨x, rfl, b1, b2⟩ := i32x x1
  obtain ⟨y, rfl, c1, c2⟩ := i32x x2
  refine ob_og (P8 := fun M R => pX8_years 20000 1290 M A (iZ x) (iZ y) R) (P9 := fun M R => pX9_years 20000 1290 M (A + 329) (iZ x) (iZ y) R) (fun M R Q s hh hR => uX8_years (d := 1305) s hh (fun v M1 j h => hR v M1 j.l h)) (fun M R Q s hh hR => Cn.cd (show 9 + 1290 + 12 = 1311 by omega) (uX9_years (d := 9) (K := 1290) s hh (fun v M1 j h => hR v M1 j.l h))) (fun M r lw H im ilw bt ln fr dr ms hp hc => ?_)
  have hv := hp.1
  have lx : fX9_lies (iZ x) 0 1000000 = iB (decide (0 ≤ x ∧ x ≤ 1000000)) := by rw [iZ_l1000000]; exact lo3 b1 b2 (by omega) (by omega)
  have ly : fX9_lies (iZ y) 1 60 = iB (decide (1 ≤ y ∧ y ≤ 60)) := by rw [iZ_l1, iZ_l60, lies_9 c1 c2 (by omega) (by omega) (by omega) (by omega)]
  have ref : ¬ ((0 ≤ x ∧ x ≤ 1000000) ∧ 1 ≤ y ∧ y ≤ 60) → pX8_refuse 20000 1290 M A (-1) (fun v M1 => Sl M M1 → OG A (fun M R => pX9_years 20000 1290 M (A + 329) (iZ x) (iZ y) R) M r H im bt ln fr dr ms v M1) := fun hn => by
    rw [iZ_n1]
    have q := OG.rf (N := 20000) (K := 1290) (P9 := fun M R => pX9_years 20000 1290 M (A + 329) (iZ x) (iZ y) R) (v := -1) (Or.inl rfl) hp hc (fun M2 hr R hR => by
      show pX9_years 20000 1290 M2 (A + 329) (iZ x) (iZ y) R
      unfold pX9_years pX9_years_0
      intro v hv
      rw [lx] at hv
      subst hv
      rw [iB_0, decide_eq_false_iff_not, iZ_n1]
      refine ⟨fun _ => IR.rf (Or.inl rfl) hr hR, fun z v3 hv3 => ?_⟩
      rw [ly] at hv3
      subst hv3
      rw [iB_0, decide_eq_false_iff_not]
      exact ⟨fun z2 => absurd ⟨Classical.not_not.mp z, Classical.not_not.mp z2⟩ hn, fun _ => IR.rf (Or.inl rfl) hr hR⟩)
    unfold pX8_refuse at q ⊢
    intro M1 h1
    obtain ⟨q1, q2⟩ := q M1 h1
    refine ⟨fun a M2 h2 _ => q1 a M2 h2, fun a => ?_⟩
    obtain ⟨q3, q4⟩ := q2 a
    refine ⟨fun a M2 h2 _ => q3 a M2 h2, fun a => ?_⟩
    obtain ⟨q5, q6⟩ := q4 a
    refine ⟨fun a M2 h2 _ => q5 a M2 h2, fun a => ?_⟩
    obtain ⟨q7, q8⟩ := q6 a
    refine ⟨fun a M2 h2 _ => q7 a M2 h2, fun a => ?_⟩
    obtain ⟨q9, q10⟩ := q8 a
    exact ⟨fun a M2 h2 _ => q9 a M2 h2, fun a M2 h2 _ => q10 a M2 h2⟩
  unfold pX8_years pX8_years_0
  rw [iZ_l0, iZ_lt (by omega) (by omega) (by omega) (by omega), iZ_l1000000, iZ_lt (by omega) (by omega) (by omega) (by omega), show (iZ y < 1) = (y < 1) by rw [iZ_l1, iZ_lt (by omega) (by omega) (by omega) (by omega)], iZ_l60, iZ_le (by omega) (by omega) (by omega) (by omega)]
  refine ⟨fun z => ref (by omega), fun z => ⟨fun z2 => ref (by omega), fun z2 => ⟨fun z3 => ref (by omega), fun z3 => ⟨fun z4 => ?_, fun z4 => ref (by omega)⟩⟩⟩⟩
  have hF := hc.fc hp
  have fa := hF.2.2.1
  refine cp_S (by omega) hv.k hv.t hc.rs (fun M1 f1 S1 s1 => ?_)
  rw [show y = ((y.toNat : Nat) : Int) by omega, ← iZ_l0, show (0 : Int32) = iZ ((0 : Nat) : Int) from rfl]
  have e6 : g_mi M1 (A + 1) = g_mi M (A + 1) := f1 _ (by omega)
  have F1 : FC M1 A (g_mi M1 (A + 1) 6) (lwA lw (r 204)) := by
    rw [e6]
    exact hF.keep s1 (by rw [e6]) (fun c q1 q2 => f1 c (by omega))
  obtain ⟨i1, i2, i3⟩ := yrN_V (cs := lwA lw (r 204)) y.toNat r x hv.k hv.t
  refine yr_8 (M0 := M1) (cs := lwA lw (r 204)) (by omega) (by omega) F1 y.toNat 0 20000 M1 r x (by omega) (by omega) hv.k hv.t hv.m (by omega) (by omega) S1 (fun _ _ => rfl) ⟨rfl, rfl, rfl⟩ (fun M2 g2 f2 s2 S2 hg2 => ?_)
  generalize hq : yrN (lwA lw (r 204)) y.toNat r x = q at *
  refine yd_8 (M0 := M2) (by omega) i1 i2 S2 (fun M3 f3 d3 => ?_) 40 0 g2 M2 (by omega) (by omega) (fun _ _ => rfl) (fun j hj => by omega)
  rw [f3 _ (by omega), S2.1.1]
  unfold pX8_accept
  intro M4 h4 _
  obtain ⟨a1, a2, a3⟩ := wi_k h4
  have kk : ∀ c, c ≠ A → c ≠ A + 303 → (c < A + 264 ∨ A + 281 < c) → g_mi M4 c = g_mi M c := fun c q1 q2 q3 => by rw [a1 c q1, f3 c q2, f2 c q3, f1 c (by omega)]
  refine ⟨fun c q1 q2 => kk c (by omega) (by omega) (by omega), r, lw, H, im, ilw, bt, ln, fr, fun i => iZ (nuF q i), va_up ms 0 0, hp, fun s => ?_, fun M5 hr => ?_⟩
  · refine hc.mix s (fun c q => kk c (by omega) (by omega) (by omega)) (hc.2.1.keep s (fun c q1 q2 => kk c (by omega) (by omega) (by omega)) (fun c q => kk c (by omega) (by omega) (by omega))) (hc.2.2.2.1.keep (fun c q1 q2 => kk c (by omega) (by omega) (by omega))) (hc.2.2.2.2.1.keep (by rw [kk _ (by omega) (by omega) (by omega)])) (hc.2.2.2.2.2.2.1.kp (by rw [kk _ (by omega) (by omega) (by omega)]) (kk _ (by omega) (by omega) (by omega))) (hc.2.2.2.2.2.2.2.1.kp (kk _ (by omega) (by omega) (by omega))) (fun i hi => by rw [a1 _ (by omega)]; exact d3 i hi) ⟨a3, ?_, ?_, ?_⟩
    · rw [kk _ (by omega) (by omega) (by omega)]; exact hc.2.2.2.2.2.2.2.2.2.2.1
    · rw [a2 15 (by omega), f3 _ (by omega), f2 _ (by omega), f1 _ (by omega)]; exact hc.2.2.2.2.2.2.2.2.2.2.2.1
    · rw [a2 14 (by omega), f3 _ (by omega), f2 _ (by omega), f1 _ (by omega)]; exact hc.2.2.2.2.2.2.2.2.2.2.2.2
  · show pX9_years 20000 1290 M5 (A + 329) (iZ x) (iZ ((y.toNat : Nat) : Int)) _
    rw [show ((y.toNat : Nat) : Int) = y by omega]
    unfold pX9_years pX9_years_0
    intro v hv1
    rw [lx, decide_eq_true (by omega)] at hv1
    subst hv1
    refine ⟨fun w => absurd w (by decide), fun _ v3 hv3 => ?_⟩
    rw [ly, decide_eq_true (by omega)] at hv3
    subst hv3
    refine ⟨fun _ M6 h6 M7 h7 => ?_, fun w => absurd w (by decide)⟩
    obtain ⟨p1, p2, p3⟩ := wi_k h6
    obtain ⟨u1, u2, u3⟩ := wi_k h7
    rw [show (0 : Int32) = iZ ((0 : Nat) : Int) from rfl]
    refine as_9 (k := 0) (r := r) (by omega) (by omega) (hr.2.1.kp (by rw [u1 _ (by omega), p1 _ (by omega)])) (fun M8 f8 d8 => ?_)
    have R8 : Rr M8 (A + 329) r := hr.2.1.kp (by funext j; rw [f8 _ _ (by omega), u1 _ (by omega), p1 _ (by omega)])
    have h49 : g_mi M8 (A + 329) 49 = iZ x := by rw [f8 _ _ (by omega), u2 49 (by omega), p3]
    rw [show y = ((y.toNat : Nat) : Int) by omega]
    refine yr_9 (M0 := M8) (cs := lwA lw (r 204)) (by omega) (by omega) (by omega) y.toNat 0 20000 M8 r x (by omega) (by omega) hv.k hv.t hv.m hp.fl (by omega) (by omega) R8 h49 (fun _ _ _ _ _ => rfl) (fun M9 g9 f9 R9 hg9 => ?_)
    rw [hq] at R9
    rw [R9 0 (by omega)]
    refine yd_9 (M0 := M9) (by omega) i1 i2 R9 (fun M10 f10 d10 => ?_) 40 0 g9 M9 (by omega) (by omega) (fun _ _ => rfl) (fun j hj => by omega)
    rw [show (0 : Int32) = iZ ((0 : Nat) : Int) from rfl]
    refine tb_k9 (k := 0) (e := r) (r := q) (by omega) (by omega) (R9.kp (f10 _ (by omega))) (fun i hi => ?_) (fun M11 f11 R11 => ?_)
    · rw [f10 _ (by omega), f9 _ _ (by omega) (by omega) (by omega)]; exact d8 i hi
    · unfold pX9_good0
      intro M12 h12
      obtain ⟨w1, w2, w3⟩ := wi_k h12
      have kf : ∀ c j, c ≠ A + 329 + 2 → c ≠ A + 329 + 5 → c ≠ A + 329 + 23 → (c < A + 329 + 12 ∨ A + 329 + 18 < c) → (c ≠ A + 329 ∨ (j ≠ 0 ∧ j ≠ 22 ∧ j ≠ 23 ∧ j ≠ 24 ∧ j ≠ 25 ∧ j ≠ 35 ∧ j ≠ 48 ∧ j ≠ 49)) → g_mi M12 c j = g_mi M5 c j := fun c j q1 q2 q3 q4 q5 => by
        have e1 : g_mi M12 c j = g_mi M11 c j := by
          by_cases w : c = A + 329
          · subst w; exact w2 j (by omega)
          · rw [w1 c w]
        have e2 : g_mi M7 c j = g_mi M5 c j := by
          by_cases w : c = A + 329
          · subst w; rw [u2 j (by omega), p2 j (by omega)]
          · rw [u1 c w, p1 c w]
        rw [e1, f11 c j q1, f10 c q3, f9 c j q1 q4 (by omega), f8 c j (by omega), e2]
      have kc : ∀ c, c ≠ A + 329 → c ≠ A + 329 + 2 → c ≠ A + 329 + 5 → c ≠ A + 329 + 23 → (c < A + 329 + 12 ∨ A + 329 + 18 < c) → g_mi M12 c = g_mi M5 c := fun c q0 q1 q2 q3 q4 => by funext j; exact kf c j q1 q2 q3 q4 (Or.inl q0)
      have k0 : ∀ j, (j = 6 ∨ j = 13 ∨ j = 14 ∨ j = 38 ∨ j = 40) → g_mi M12 (A + 329) j = g_mi M5 (A + 329) j := fun j q => kf _ j (by omega) (by omega) (by omega) (by omega) (by omega)
      refine ⟨rfl, fun c q => kc c (by omega) (by omega) (by omega) (by omega) (by omega), fun s => ?_⟩
      refine hr.mix s (fun c q => kc c (by omega) (by omega) (by omega) (by omega) (by omega)) (fun i hi => ?_) (hr.2.2.1.keep (k0 _ (by omega)) (kc _ (by omega) (by omega) (by omega) (by omega) (by omega))) (hr.2.2.2.2.1.1.kp (kc _ (by omega) (by omega) (by omega) (by omega) (by omega))) (by rw [k0 _ (by omega)]; exact hr.2.2.2.2.1.2.1) (hr.2.2.2.2.2.1.kp (kc _ (by omega) (by omega) (by omega) (by omega) (by omega))) (Or.inr ⟨?_, fun i hi => ?_⟩) ⟨w3, ?_, ?_, ?_⟩
      · rw [w1 _ (by omega), R11 i hi]
        by_cases w : i < 188
        · rw [mix_lo w]
        · rw [mix_hi (by omega), i3 i (by omega)]
      · rw [w2 48 (by omega), f11 _ _ (by omega), f10 _ (by omega), f9 _ _ (by omega) (by omega) (by omega), f8 _ _ (by omega), u3]
      · rw [w1 _ (by omega), f11 _ _ (by omega)]; exact d10 i hi
      · rw [k0 _ (by omega)]; exact hr.2.2.2.2.2.2.2.2.1
      · rw [k0 _ (by omega)]; exact hr.2.2.2.2.2.2.2.2.2.1
      · rw [k0 _ (by omega)]; exact hr.2.2.2.2.2.2.2.2.2.2
end OBY
