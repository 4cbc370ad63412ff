/-! The class's steps: what a row of steps computes. -/
def Fs (su : Nat) (M M1 : gM) : Prop := ∀ c, c ≠ su + 2 → g_mi M1 c = g_mi M c
theorem Fs.rf {su : Nat} {M : gM} : Fs su M M := fun _ _ => rfl
theorem Fs.tr {su : Nat} {M M1 M2 : gM} (h : Fs su M M1) (h2 : Fs su M1 M2) : Fs su M M2 := fun c hc => (h2 c hc).trans (h c hc)
theorem Fs.wi {su i : Nat} {M : gM} {x : Int32} : Fs su M (g_wi M (su + 2) i x) := fun c hc => by funext j; rw [mi_wi, if_neg (fun q => hc q.1)]
/-- a text at tx, the asker at su -/
def Sx (st nm : Nat → Int32) (lo hi L : Nat) (W : (Nat → Int32) → Prop) (su tx m1 : Nat) (M : gM) : Prop := g_mi M tx 7 = iZ L ∧ L ≤ m1 ∧ m1 ≤ 460 ∧ (∀ i, lo ≤ i → i < hi → g_mi M (tx + 5) i = st i ∧ g_mi M (tx + 6) i = nm i) ∧ W (g_mi M (su + 1)) ∧ tx ≠ su + 2 ∧ tx + 5 ≠ su + 2 ∧ tx + 6 ≠ su + 2
theorem Sx.sub {st nm : Nat → Int32} {lo hi lo2 hi2 L : Nat} {W : (Nat → Int32) → Prop} {su tx m1 : Nat} {M : gM} (e : Sx st nm lo hi L W su tx m1 M) (h1 : lo ≤ lo2) (h2 : hi2 ≤ hi) : Sx st nm lo2 hi2 L W su tx m1 M := ⟨e.1, e.2.1, e.2.2.1, fun i hi hj => e.2.2.2.1 i (by omega) (by omega), e.2.2.2.2⟩
theorem Sx.fs {st nm : Nat → Int32} {lo hi L : Nat} {W : (Nat → Int32) → Prop} {su tx m1 : Nat} {M M1 : gM} (h : Fs su M M1) (e : Sx st nm lo hi L W su tx m1 M) : Sx st nm lo hi L W su tx m1 M1 := by
  obtain ⟨e1, e2, e3, e4, e5, e6, e7, e8⟩ := e
  unfold Sx
  rw [h _ e6, h _ e7, h _ e8, h _ (by omega)]
  exact ⟨e1, e2, e3, e4, e5, e6, e7, e8⟩
section CD
variable {N K lo hi L su tx n1 m1 n d t p : Nat} {st nm : Nat → Int32} {W : (Nat → Int32) → Prop} {M : gM} {R : Int32 → gM → Prop}
/-- a step that is there -/
theorem v_in (hS : Sx st nm lo hi L W su tx m1 M) (hp0 : lo ≤ p) (hp1 : p < hi) (hp : p < L) (ht : t < 460) (hd : d ≤ 51)
    (h0 : st p = 0 → ((¬ d = 1 → R (-2147483648) M) ∧ (d = 1 → R (g_mi M (su + 2) 0) M)))
    (h1 : st p = 1 → d < 51 ∧ ¬ nm p < 0 ∧ ∀ M1, M1 = g_wi M (su + 2) d (nm p) → qX4_valueOf N K R n 0 M1 su tx n1 m1 (iZ ((d + 1 : Nat) : Int)) (iZ ((p + 1 : Nat) : Int)) (iZ ((t + 1 : Nat) : Int)))
    (h2 : st p = 2 → d < 51 ∧ ∃ c : Nat, c < 60 ∧ nm p = iZ c ∧ ∀ M1, M1 = g_wi M (su + 2) d (g_mi M (su + 1) c) → qX4_valueOf N K R n 0 M1 su tx n1 m1 (iZ ((d + 1 : Nat) : Int)) (iZ ((p + 1 : Nat) : Int)) (iZ ((t + 1 : Nat) : Int)))
    (h3 : st p = 3 → 1 ≤ d ∧ ∀ M1, M1 = g_wi M (su + 2) (d - 1) (1 - g_mi M (su + 2) (d - 1)) → qX4_valueOf N K R n 0 M1 su tx n1 m1 (iZ d) (iZ ((p + 1 : Nat) : Int)) (iZ ((t + 1 : Nat) : Int)))
    (h4 : st p = 4 → 1 ≤ d ∧ (¬ g_mi M (su + 2) (d - 1) = 0 → qX4_valueOf N K R n 0 M su tx n1 m1 (iZ ((d - 1 : Nat) : Int)) (iZ ((p + 1 : Nat) : Int)) (iZ ((t + 1 : Nat) : Int))) ∧ (g_mi M (su + 2) (d - 1) = 0 → qX4_valueOf N K R n 0 M su tx n1 m1 (iZ d) (nm p) (iZ ((t + 1 : Nat) : Int))))
    (h5 : st p = 5 → 1 ≤ d ∧ (¬ g_mi M (su + 2) (d - 1) = 1 → qX4_valueOf N K R n 0 M su tx n1 m1 (iZ ((d - 1 : Nat) : Int)) (iZ ((p + 1 : Nat) : Int)) (iZ ((t + 1 : Nat) : Int))) ∧ (g_mi M (su + 2) (d - 1) = 1 → qX4_valueOf N K R n 0 M su tx n1 m1 (iZ d) (nm p) (iZ ((t + 1 : Nat) : Int))))
    (h6 : ¬ st p = 0 → ¬ st p = 1 → ¬ st p = 2 → ¬ st p = 3 → ¬ st p = 4 → ¬ st p = 5 → 2 ≤ d ∧ ∀ v, v = fX4_combined (st p) (g_mi M (su + 2) (d - 2)) (g_mi M (su + 2) (d - 1)) → (¬ v = -2147483648 → ∀ M1, M1 = g_wi M (su + 2) (d - 2) v → qX4_valueOf N K R n 0 M1 su tx n1 m1 (iZ ((d - 1 : Nat) : Int)) (iZ ((p + 1 : Nat) : Int)) (iZ ((t + 1 : Nat) : Int))) ∧ (v = -2147483648 → R (-2147483648) M)) :
    qX4_valueOf N K R (n + 1) 0 M su tx n1 m1 (iZ d) (iZ p) (iZ t) := by
  obtain ⟨e1, e2, e3, e4, e5, e6, e7, e8⟩ := hS
  rw [qX4_valueOf]
  unfold pX4_valueOf_8
  have c1 : ¬ (460 : Int32) ≤ iZ t := by rw [iZ_l460, iZ_le (by omega) (by omega) (by omega) (by omega)]; omega
  have c2 : ¬ iZ (p : Int) < 0 := by rw [iZ_l0, iZ_lt (by omega) (by omega) (by omega) (by omega)]; omega
  have c3 : ¬ iZ (L : Int) ≤ iZ (p : Int) := by rw [iZ_le (by omega) (by omega) (by omega) (by omega)]; omega
  have d1 : (iZ (d : Int) = 1) = (d = 1) := by rw [iZ_l1, iZ_eq (by omega) (by omega) (by omega) (by omega)]; exact propext ⟨fun _ => by omega, fun _ => by omega⟩
  rw [e1, iZ_cl (show p < 2147483648 by omega), (e4 p hp0 hp1).1, (e4 p hp0 hp1).2, iZ_s1, iZ_s1, iZ_s1, d1]
  refine ⟨fun q => absurd q c1, fun _ => ⟨fun q => absurd q c2, fun _ => ⟨fun q => absurd q c3, fun _ => ⟨iZ_in (by omega) (by omega) (by omega), fun k0 => ⟨fun k1 => ?_, fun k1 => ⟨fun k2 => ?_, fun k2 => ?_⟩⟩, fun k0 => h0 k0⟩⟩⟩⟩
  · obtain ⟨a1, a2, a3⟩ := h1 k1
    have c5 : ¬ (51 : Int32) ≤ iZ d := by rw [show (51 : Int32) = iZ 51 from rfl, iZ_le (by omega) (by omega) (by omega) (by omega)]; omega
    refine ⟨fun q => absurd q c5, fun _ => ⟨fun q => absurd q a2, fun _ => ⟨iZ_in (by omega) (by omega) (by omega), fun M1 hM => a3 M1 ?_⟩⟩⟩
    rw [hM, iZ_cl (by omega)]
  · have c5 : 1 ≤ d → (1 : Int32) ≤ iZ d := fun h => by rw [iZ_l1, iZ_le (by omega) (by omega) (by omega) (by omega)]; omega
    refine ⟨fun q1 => ⟨fun k3 => ⟨fun k4 => ?_, fun k4 => ⟨fun k5 => ?_, fun k5 => ?_⟩⟩, fun k3 => ?_⟩, fun q1 => ?_⟩
    · obtain ⟨a1, a2, a3⟩ := h4 k4
      rw [iZ_m1 a1, iZ_p1 a1, iZ_cl (show d - 1 < 2147483648 by omega)]
      exact ⟨iZ_in (by omega) (by omega) (by omega), a2, a3⟩
    · obtain ⟨a1, a2⟩ := h6 k0 k1 k2 k3 k4 k5
      rw [iZ_p1 (show 0 < d by omega), iZ_m1 (show 0 < d - 1 by omega), iZ_cl (show d - 1 < 2147483648 by omega), iZ_cl (show d - 1 - 1 < 2147483648 by omega), show d - 1 - 1 = d - 2 by omega]
      have c6 : (1 : Int32) ≤ iZ ((d - 1 : Nat) : Int) := by rw [iZ_l1, iZ_le (by omega) (by omega) (by omega) (by omega)]; omega
      exact ⟨fun _ => ⟨iZ_in (by omega) (by omega) (by omega), iZ_in (by omega) (by omega) (by omega), ⟨fun _ _ _ _ q => q, fun _ _ _ _ _ q => q⟩, a2⟩, fun q => absurd c6 q⟩
    · obtain ⟨a1, a2, a3⟩ := h5 k5
      rw [iZ_m1 a1, iZ_p1 a1, iZ_cl (show d - 1 < 2147483648 by omega)]
      exact ⟨iZ_in (by omega) (by omega) (by omega), a2, a3⟩
    · obtain ⟨a1, a2⟩ := h3 k3
      rw [iZ_m1 a1, iZ_cl (show d - 1 < 2147483648 by omega)]
      exact ⟨iZ_in (by omega) (by omega) (by omega), a2⟩
    · have : 1 ≤ d := by
        by_cases k3 : st p = 3
        · exact (h3 k3).1
        · by_cases k4 : st p = 4
          · exact (h4 k4).1
          · by_cases k5 : st p = 5
            · exact (h5 k5).1
            · have := (h6 k0 k1 k2 k3 k4 k5).1; omega
      exact absurd (c5 this) q1
  · obtain ⟨a1, c, a2, a3, a4⟩ := h2 k2
    have c5 : ¬ (51 : Int32) ≤ iZ d := by rw [show (51 : Int32) = iZ 51 from rfl, iZ_le (by omega) (by omega) (by omega) (by omega)]; omega
    have c6 : ¬ iZ (c : Int) < 0 := by rw [iZ_l0, iZ_lt (by omega) (by omega) (by omega) (by omega)]; omega
    have c7 : iZ (c : Int) < 60 := by rw [iZ_l60, iZ_lt (by omega) (by omega) (by omega) (by omega)]; omega
    rw [a3, iZ_cl (show c < 2147483648 by omega), iZ_cl (show d < 2147483648 by omega)]
    exact ⟨fun q => absurd q c5, fun _ => ⟨fun q => absurd q c6, fun _ => ⟨fun _ => ⟨iZ_in (by omega) (by omega) (by omega), iZ_in (by omega) (by omega) (by omega), a4⟩, fun q => absurd c7 q⟩⟩⟩
end CD
/-- sums stay within bounds, tests are 0 or 1 -/
def Bs (D : Dn) : Prop := ∀ e x, Eb e → D e = some x → -1000000000 ≤ x ∧ x ≤ 1000000000
def Bt (D : Dn) : Prop := ∀ e x, Eb e → D e = some x → x = 0 ∨ x = 1
/-- the steps from p on to q compute D, with a stack of k more -/
def Cm (st nm : Nat → Int32) (p q k : Nat) (W : (Nat → Int32) → En → Prop) (D : Dn) : Prop := (p ≤ q ∧ 1 ≤ k) ∧ ∀ (N K L su tx n1 m1 n d t : Nat) (e : En) (M : gM) (R : Int32 → gM → Prop), Sx st nm p q L (fun w => W w e) su tx m1 M → q ≤ L → d + k ≤ 51 → t + (q - p) ≤ 460 → q - p ≤ n → (D e = none → ∀ M1, Fs su M M1 → R (-2147483648) M1) → (∀ v M1 n2 t2, D e = some v → Fs su M M1 → (∀ i, i < d → g_mi M1 (su + 2) i = g_mi M (su + 2) i) → g_mi M1 (su + 2) d = iZ v → n ≤ n2 + (q - p) → t2 ≤ t + (q - p) → qX4_valueOf N K R n2 0 M1 su tx n1 m1 (iZ ((d + 1 : Nat) : Int)) (iZ q) (iZ t2)) → qX4_valueOf N K R n 0 M su tx n1 m1 (iZ d) (iZ p) (iZ t)
theorem Cm_k {st nm : Nat → Int32} {p : Nat} {W : (Nat → Int32) → En → Prop} {v : Int} (h1 : st p = 1) (h2 : nm p = iZ v) (v0 : 0 ≤ v) (v1 : v < 2147483648) : Cm st nm p (p + 1) 1 W (kD v) := by
  refine ⟨⟨by omega, by omega⟩, fun N K L su tx n1 m1 n d t e M R hS hq hd ht hn hN hV => ?_⟩
  obtain ⟨m, rfl⟩ : ∃ m, n = m + 1 := ⟨n - 1, by omega⟩
  refine v_in hS (by omega) (by omega) (by omega) (by omega) (by omega) (fun q => ?_) (fun _ => ⟨by omega, ?_, fun M1 hM => ?_⟩) (fun q => ?_) (fun q => ?_) (fun q => ?_) (fun q => ?_) (fun _ q => absurd h1 q)
  · rw [h1] at q; exact absurd q (by decide)
  · rw [h2, iZ_l0, iZ_lt (by omega) (by omega) (by omega) (by omega)]; omega
  · refine hV v M1 m (t + 1) rfl (by rw [hM]; exact Fs.wi) (fun i hi => ?_) ?_ (by omega) (by omega)
    · rw [hM, mi_wi, if_neg (by omega)]
    · rw [hM, mi_wi, if_pos ⟨rfl, rfl⟩, h2]
  all_goals (rw [h1] at q; exact absurd q (by decide))
theorem Cm_w {st nm : Nat → Int32} {p c : Nat} {W : (Nat → Int32) → En → Prop} {k1 k2 : Int} (h1 : st p = 2) (h2 : nm p = iZ c) (hc : c < 60) (hW : ∀ w e, W w e → w c = iZ (e k1 k2)) : Cm st nm p (p + 1) 1 W (wD k1 k2) := by
  refine ⟨⟨by omega, by omega⟩, fun N K L su tx n1 m1 n d t e M R hS hq hd ht hn hN hV => ?_⟩
  obtain ⟨m, rfl⟩ : ∃ m, n = m + 1 := ⟨n - 1, by omega⟩
  refine v_in hS (by omega) (by omega) (by omega) (by omega) (by omega) (fun q => ?_) (fun q => ?_) (fun _ => ⟨by omega, c, hc, h2, fun M1 hM => ?_⟩) (fun q => ?_) (fun q => ?_) (fun q => ?_) (fun _ _ q => absurd h1 q)
  · rw [h1] at q; exact absurd q (by decide)
  · rw [h1] at q; exact absurd q (by decide)
  · refine hV _ M1 m (t + 1) rfl (by rw [hM]; exact Fs.wi) (fun i hi => ?_) ?_ (by omega) (by omega)
    · rw [hM, mi_wi, if_neg (by omega)]
    · rw [hM, mi_wi, if_pos ⟨rfl, rfl⟩]; exact hW _ _ hS.2.2.2.2.1
  all_goals (rw [h1] at q; exact absurd q (by decide))
theorem Cm_not {st nm : Nat → Int32} {p q k : Nat} {W : (Nat → Int32) → En → Prop} {D : Dn} (hC : Cm st nm p q k W D) (h1 : st q = 3) : Cm st nm p (q + 1) k W (notD D) := by
  refine ⟨by have := hC.1; omega, fun N K L su tx n1 m1 n d t e M R hS hq hd ht hn hN hV => ?_⟩
  have hpq := hC.1
  refine hC.2 N K L su tx n1 m1 n d t e M R (hS.sub (by omega) (by omega)) (by omega) (by omega) (by omega) (by omega) (fun hD => hN (by unfold notD; rw [hD]; rfl)) (fun v M1 n2 t2 hD f1 s1 s2 hn2 ht2 => ?_)
  obtain ⟨m, rfl⟩ : ∃ m, n2 = m + 1 := ⟨n2 - 1, by omega⟩
  refine v_in (hS.fs f1) (by omega) (by omega) (by omega) (by omega) (by omega) (fun z => ?_) (fun z => ?_) (fun z => ?_) (fun _ => ⟨by omega, fun M2 hM => ?_⟩) (fun z => ?_) (fun z => ?_) (fun _ _ _ z => absurd h1 z)
  · rw [h1] at z; exact absurd z (by decide)
  · rw [h1] at z; exact absurd z (by decide)
  · rw [h1] at z; exact absurd z (by decide)
  · rw [show d + 1 - 1 = d by omega, s2, iZ_l1, iZ_sub] at hM
    refine hV (1 - v) M2 m (t2 + 1) (by unfold notD; rw [hD]; rfl) (f1.tr (by rw [hM]; exact Fs.wi)) (fun i hi => ?_) ?_ (by omega) (by omega)
    · rw [hM, mi_wi, if_neg (by omega)]; exact s1 i hi
    · rw [hM, mi_wi, if_pos ⟨rfl, rfl⟩]
  all_goals (rw [h1] at z; exact absurd z (by decide))
/-- "or": 5, "and": 4; the jump leads behind -/
theorem Cm_or {st nm : Nat → Int32} {p q r k k2 : Nat} {W : (Nat → Int32) → En → Prop} {A B : Dn} (hA : Cm st nm p q k W A) (hB : Cm st nm (q + 1) r k2 W B) (h1 : st q = 5) (h2 : nm q = iZ r) (hbt : ∀ w e, W w e → Eb e) (hb : Bt A) : Cm st nm p r (k + k2) W (orD A B) := by
  have hpq := hA.1
  have hqr := hB.1
  refine ⟨⟨by omega, by omega⟩, fun N K L su tx n1 m1 n d t e M R hS hq hd ht hn hN hV => ?_⟩
  have he : Eb e := hbt _ _ hS.2.2.2.2.1
  refine hA.2 N K L su tx n1 m1 n d t e M R (hS.sub (by omega) (by omega)) (by omega) (by omega) (by omega) (by omega) (fun hD => hN (by unfold orD; rw [hD]; rfl)) (fun v M1 n2 t2 hD f1 s1 s2 hn2 ht2 => ?_)
  have v01 := hb e v he hD
  obtain ⟨m, rfl⟩ : ∃ m, n2 = m + 1 := ⟨n2 - 1, by omega⟩
  refine v_in (hS.fs f1) (by omega) (by omega) (by omega) (by omega) (by omega) (fun z => ?_) (fun z => ?_) (fun z => ?_) (fun z => ?_) (fun z => ?_) (fun _ => ⟨by omega, fun z => ?_, fun z => ?_⟩) (fun _ _ _ _ _ z => absurd h1 z)
  · rw [h1] at z; exact absurd z (by decide)
  · rw [h1] at z; exact absurd z (by decide)
  · rw [h1] at z; exact absurd z (by decide)
  · rw [h1] at z; exact absurd z (by decide)
  · rw [h1] at z; exact absurd z (by decide)
  · rw [show d + 1 - 1 = d by omega] at z ⊢
    have v1 : ¬ v = 1 := fun w => z (by rw [s2, w]; rfl)
    have e4 : orD A B e = B e := by unfold orD; rw [hD]; show (if v = 1 then some 1 else B e) = _; rw [if_neg v1]
    refine hB.2 N K L su tx n1 m1 m d (t2 + 1) e M1 R ((hS.fs f1).sub (by omega) (by omega)) (by omega) (by omega) (by omega) (by omega) (fun hB2 M2 f2 => hN (by rw [e4]; exact hB2) M2 (f1.tr f2)) (fun v2 M2 n3 t3 hD2 f2 s3 s4 hn3 ht3 => ?_)
    exact hV v2 M2 n3 t3 (by rw [e4]; exact hD2) (f1.tr f2) (fun i hi => (s3 i hi).trans (s1 i hi)) s4 (by omega) (by omega)
  · rw [show d + 1 - 1 = d by omega] at z
    have v1 : v = 1 := by
      rcases v01 with w | w
      · rw [s2, w] at z; exact absurd z (by decide)
      · exact w
    rw [h2]
    refine hV 1 M1 m (t2 + 1) (by unfold orD; rw [hD, v1]; rfl) f1 s1 (by rw [s2, v1]) (by omega) (by omega)
theorem Cm_and {st nm : Nat → Int32} {p q r k k2 : Nat} {W : (Nat → Int32) → En → Prop} {A B : Dn} (hA : Cm st nm p q k W A) (hB : Cm st nm (q + 1) r k2 W B) (h1 : st q = 4) (h2 : nm q = iZ r) (hbt : ∀ w e, W w e → Eb e) (hb : Bt A) : Cm st nm p r (k + k2) W (andD A B) := by
  have hpq := hA.1
  have hqr := hB.1
  refine ⟨⟨by omega, by omega⟩, fun N K L su tx n1 m1 n d t e M R hS hq hd ht hn hN hV => ?_⟩
  have he : Eb e := hbt _ _ hS.2.2.2.2.1
  refine hA.2 N K L su tx n1 m1 n d t e M R (hS.sub (by omega) (by omega)) (by omega) (by omega) (by omega) (by omega) (fun hD => hN (by unfold andD; rw [hD]; rfl)) (fun v M1 n2 t2 hD f1 s1 s2 hn2 ht2 => ?_)
  have v01 := hb e v he hD
  obtain ⟨m, rfl⟩ : ∃ m, n2 = m + 1 := ⟨n2 - 1, by omega⟩
  refine v_in (hS.fs f1) (by omega) (by omega) (by omega) (by omega) (by omega) (fun z => ?_) (fun z => ?_) (fun z => ?_) (fun z => ?_) (fun _ => ⟨by omega, fun z => ?_, fun z => ?_⟩) (fun z => ?_) (fun _ _ _ _ z => absurd h1 z)
  · rw [h1] at z; exact absurd z (by decide)
  · rw [h1] at z; exact absurd z (by decide)
  · rw [h1] at z; exact absurd z (by decide)
  · rw [h1] at z; exact absurd z (by decide)
  · rw [show d + 1 - 1 = d by omega] at z ⊢
    have v1 : ¬ v = 0 := fun w => z (by rw [s2, w]; rfl)
    have e4 : andD A B e = B e := by unfold andD; rw [hD]; show (if v = 0 then some 0 else B e) = _; rw [if_neg v1]
    refine hB.2 N K L su tx n1 m1 m d (t2 + 1) e M1 R ((hS.fs f1).sub (by omega) (by omega)) (by omega) (by omega) (by omega) (by omega) (fun hB2 M2 f2 => hN (by rw [e4]; exact hB2) M2 (f1.tr f2)) (fun v2 M2 n3 t3 hD2 f2 s3 s4 hn3 ht3 => ?_)
    exact hV v2 M2 n3 t3 (by rw [e4]; exact hD2) (f1.tr f2) (fun i hi => (s3 i hi).trans (s1 i hi)) s4 (by omega) (by omega)
  · rw [show d + 1 - 1 = d by omega] at z
    have v1 : v = 0 := by
      rcases v01 with w | w
      · exact w
      · rw [s2, w] at z; exact absurd z (by decide)
    rw [h2]
    refine hV 0 M1 m (t2 + 1) (by unfold andD; rw [hD, v1]; rfl) f1 s1 (by rw [s2, v1]) (by omega) (by omega)
  · rw [h1] at z; exact absurd z (by decide)
