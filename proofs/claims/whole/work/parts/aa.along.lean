/-! Orders: what their words tell; the reference goes along a clause. -/
def eO (r : Nat → Int) (dn lt : Int) : En := fun c k => if c = 12 then (if 0 ≤ k ∧ k < 3 * r 31 then (dg r k (r 32) (r 31) : Int) else -1) else if c = 13 then r 187 else if c = 14 then dn else if c = 15 then lt else if c = 16 then r 0 else if c = 17 then fdA r k 1 else 0
theorem fdA_b {r : Nat → Int} {k : Int} (hT : Vt r) : -1 ≤ fdA r k 1 ∧ fdA r k 1 ≤ 60 := by
  unfold fdA
  split
  · omega
  · split
    · rw [if_neg (by decide), if_pos rfl]; exact nuF_b hT
    · omega
theorem eO_b {r : Nat → Int} {dn lt : Int} (hV : Vk r) (hT : Vt r) (d0 : 0 ≤ dn) (d1 : dn ≤ 1000) (l0 : -1 ≤ lt) (l1 : lt ≤ 1000) : Eb (eO r dn lt) := fun c k => by
  obtain ⟨v0, v30, _, _, _, _, _, _, t0, t1⟩ := hV
  have := fdA_b (k := k) hT
  have hd := cnt_le (fun i => hv (r (1 + i)) k (r 32) (r 31)) (r 0).toNat
  unfold eO dg
  split
  · split <;> omega
  · split
    · omega
    · split
      · omega
      · split
        · omega
        · split
          · omega
          · split <;> omega
section OV
variable {N K b : Nat} {r : Nat → Int} {dn lt : Int}
theorem ov_9 {M : gM} {R : Int32 → Prop} {c k : Int} (hN : 500 ≤ N) (hV : Vk r) (hT : Vt r) (hR : Rr M b r) (h27 : g_mi M b 27 = iZ dn) (h28 : g_mi M b 28 = iZ lt) (hc : okW c k) (hE : R (iZ (eO r dn lt c k))) : pX9_orderValue N 0 M b (iZ c) (iZ k) R := by
  unfold okW at hc
  have kb : 0 ≤ k ∧ k ≤ 999 := by omega
  have cb : 12 ≤ c ∧ c ≤ 17 := by omega
  unfold pX9_orderValue
  rw [iZ_l12, iZ_eq (by omega) (by omega) (by omega) (by omega), iZ_l13, iZ_eq (by omega) (by omega) (by omega) (by omega), iZ_l14, iZ_eq (by omega) (by omega) (by omega) (by omega), iZ_l15, iZ_eq (by omega) (by omega) (by omega) (by omega), iZ_l16, iZ_eq (by omega) (by omega) (by omega) (by omega)]
  unfold eO at hE
  refine ⟨fun z => ?_, fun z => ⟨fun z2 => ?_, fun z2 => ⟨fun z3 => ?_, fun z3 => ⟨fun z4 => ?_, fun z4 => ⟨fun z5 => ?_, fun z5 => ?_⟩⟩⟩⟩⟩
  · rw [if_pos z] at hE
    obtain ⟨i1, i2⟩ := isV_9 (v := k) hV hR (by omega) (by omega)
    refine ⟨i1, fun v1 hv1 => ?_⟩
    rw [i2] at hv1
    subst hv1
    rw [iB_0, decide_eq_false_iff_not]
    refine ⟨fun w => ?_, fun w => ?_⟩
    · rw [if_neg w] at hE; rw [iZ_n1]; exact hE
    · rw [if_pos (Classical.not_not.mp w)] at hE
      obtain ⟨d1, d2⟩ := dg_9 (N := N) (v := k) (s := r 32) (by omega) hV hR (by omega) (by omega) hV.2.2.2.2.2.2.1 hV.2.2.2.2.2.2.2.1
      rw [hR 32 (by omega)]
      exact ⟨d1, fun v2 hv2 => by rw [hv2, d2]; exact hE⟩
  · rw [if_neg z, if_pos z2] at hE; rw [hR 187 (by omega)]; exact hE
  · rw [if_neg z, if_neg z2, if_pos z3] at hE; rw [h27]; exact hE
  · rw [if_neg z, if_neg z2, if_neg z3, if_pos z4] at hE; rw [h28]; exact hE
  · rw [if_neg z, if_neg z2, if_neg z3, if_neg z4, if_pos z5] at hE; rw [hR 0 (by omega)]; exact hE
  · rw [if_neg z, if_neg z2, if_neg z3, if_neg z4, if_neg z5, if_pos (by omega)] at hE
    rw [iZ_l1]
    exact fd_9 (by omega) hT hR (by omega) (by omega) (by omega) (by omega) hE
/-- going along changes these fields alone -/
def Fga (b : Nat) (M M1 : gM) : Prop := ∀ c j, (c ≠ b ∨ (j ≠ 22 ∧ j ≠ 23 ∧ j ≠ 24 ∧ j ≠ 25 ∧ j ≠ 42 ∧ j ≠ 43 ∧ j ≠ 44 ∧ j ≠ 45)) → g_mi M1 c j = g_mi M c j
theorem Fga.wi {M M1 M2 : gM} {i : Nat} {x : Int32} (h : Fga b M M1) (hi : i = 22 ∨ i = 23 ∨ i = 24 ∨ i = 25 ∨ i = 42 ∨ i = 43 ∨ i = 44 ∨ i = 45) (h2 : M2 = g_wi M1 b i x) : Fga b M M2 := fun c j q => by rw [h2, mi_wi, if_neg (by omega)]; exact h c j q
theorem Fga.fe {M M1 M2 : gM} (h : Fga b M M1) (h2 : Fe b M1 M2) : Fga b M M2 := fun c j q => by rw [h2 c j (by omega)]; exact h c j q
/-- a text of orders in the row, at its place -/
def OT (r cd vl : Nat → Int) (T : Nat) : Prop := T ≤ 400 ∧ cd T = 0 ∧ ∀ i, i < T → r (212 + (2400 + i)) = cd i ∧ r (3012 + (2400 + i)) = vl i ∧ 0 ≤ cd i ∧ cd i ≤ 355 ∧ 0 ≤ vl i ∧ vl i ≤ 20000000
theorem Eo_g {M0 M : gM} {cd vl : Nat → Int} {T : Nat} (hN : 500 ≤ N) (hV : Vk r) (hT : Vt r) (d0 : 0 ≤ dn) (d1 : dn ≤ 1000) (l0 : -1 ≤ lt) (l1 : lt ≤ 1000) (hO : OT r cd vl T) (hR : Rr M0 b r) (h27 : g_mi M0 b 27 = iZ dn) (h28 : g_mi M0 b 28 = iZ lt) (f : Fga b M0 M) (h23 : g_mi M b 23 = iZ ((2400 + T : Nat) : Int)) (h25 : g_mi M b 25 = 1) : Eo N b 2400 T cd vl true (eO r dn lt) M := by
  have R1 : ∀ M2, Fga b M0 M2 → Rr M2 b r := fun M2 f2 => hR.kp (by funext j; exact f2 _ _ (by omega))
  refine ⟨hO.1, by omega, hO.2.1, h23, h25, fun i hi => ?_, fun z => (by cases z), fun _ c k R M2 f2 hc hE => ?_, eO_b hV hT d0 d1 l0 l1⟩
  · have t := hO.2.2 i hi
    have := hO.1
    have R2 := R1 M f
    rw [R2 _ (by omega), R2 _ (by omega), t.1, t.2.1]
    exact ⟨rfl, rfl, t.2.2⟩
  · have f3 := f.fe f2
    exact ov_9 hN hV hT (R1 M2 f3) (by rw [f3 _ _ (by omega)]; exact h27) (by rw [f3 _ _ (by omega)]; exact h28) hc hE
end OV
theorem cTimes_R {cd vl : Nat → Int} {p l : Nat} {hd : Int} {S : Dn} {y : Nat × Nat × Cl} (h : cTimes cd vl true p l hd S = .inr y) : (cd p = 22 ∧ 1 ≤ vl (p + 1) ∧ vl (p + 1) ≤ 20 ∧ cd (p + 1) = 50 ∧ cTest cd vl true (p + 2) l hd S (vl (p + 1)) = .inr y) ∨ (cd p ≠ 22 ∧ cTest cd vl true p l hd S 1 = .inr y) := by
  unfold cTimes at h
  by_cases c : cd p = 22
  · rw [if_pos ⟨rfl, c⟩] at h
    by_cases c2 : cd (p + 1) = 50 ∧ 1 ≤ vl (p + 1) ∧ vl (p + 1) ≤ 20
    · rw [if_pos c2] at h
      exact Or.inl ⟨c, c2.2.1, c2.2.2, c2.1, h⟩
    · rw [if_neg c2] at h; cases h
  · rw [if_neg (fun z => c z.2)] at h
    exact Or.inr ⟨c, h⟩
theorem RC_O {cd vl : Nat → Int} {p l : Nat} {y : Nat × Nat × Cl} (h : RC cd vl true p l = .inr y) : ((cd p = 18 ∨ cd p = 19 ∨ cd p = 20 ∨ cd p = 10) ∧ ∃ p2 l2 S, PP cd vl true 480 6 0 (p + 1) l (kD 0) false = some (.inr (p2, l2, S)) ∧ cTimes cd vl true p2 l2 (cd p) S = .inr y) ∨ (cd p = 21 ∧ cTimes cd vl true (p + 1) l 21 (kD 0) = .inr y) := by
  unfold RC at h
  split at h
  · rename_i c
    have c1 : cd p = 18 ∨ cd p = 19 ∨ cd p = 20 ∨ cd p = 10 := by
      rcases c with c | c
      · exact absurd c.1 (by decide)
      · exact c.2
    left
    refine ⟨c1, ?_⟩
    unfold cSum at h
    cases hp : PP cd vl true 480 6 0 (p + 1) l (kD 0) false with
    | none => rw [hp] at h; cases h
    | some z =>
      cases z with
      | inl e => rw [hp] at h; cases h
      | inr z => rw [hp] at h; exact ⟨z.1, z.2.1, z.2.2, rfl, h⟩
  · split at h
    · rename_i c
      have c1 : cd p = 21 := by
        rcases c with c | c
        · exact absurd c.1 (by decide)
        · exact c.2
      right
      rw [c1] at h
      exact ⟨c1, h⟩
    · cases h
section GA
variable {N K b : Nat} {r : Nat → Int} {dn lt : Int} {cd vl : Nat → Int} {T : Nat}
theorem code_O {M0 M : gM} {e : En} {p : Nat} (h : Eo N b 2400 T cd vl true e M0) (f : Fe b M0 M) (hg : g_mi M b 22 = iZ ((2400 + p : Nat) : Int)) (hp : p ≤ T) : EX9_codeAt M b (g_mi M b 22) ∧ fX9_codeAt M b (g_mi M b 22) = iZ (cd p) := by
  obtain ⟨h1, h2, h3, h4, h5, h6, _⟩ := h
  unfold EX9_codeAt fX9_codeAt
  rw [hg, f _ _ (Or.inr (by decide)), h4]
  have cc : (iZ ((2400 + T : Nat) : Int) ≤ iZ ((2400 + p : Nat) : Int)) = (T ≤ p) := by
    rw [iZ_le (by omega) (by omega) (by omega) (by omega)]; exact propext ⟨fun _ => by omega, fun _ => by omega⟩
  rcases Nat.lt_or_ge p T with q | q
  · rw [if_neg (by rw [cc]; omega), show (212 : Int32) = iZ ((212 : Nat) : Int) from rfl, iZ_add]
    refine ⟨fun _ => iZ_in (by omega) (by omega) (by omega), ?_⟩
    rw [iZ_nat (by omega) (by omega), show (((212 : Nat) : Int) + ((2400 + p : Nat) : Int)).toNat = 212 + (2400 + p) by omega, f _ _ (Or.inl (by omega))]
    exact (h6 p q).1
  · have e1 : p = T := by omega
    rw [if_pos (by rw [cc]; omega), e1, h3]
    exact ⟨fun q => absurd (Int32.le_refl _) q, rfl⟩
/-- what is known behind a clause gone along -/
def GA (M M1 : gM) (b : Nat) (lv : Bool) (e : En) (hd : Int) (S : Dn) (tm : Int) (D : Dn) (p1 : Nat) : Prop := Fga b M M1 ∧ g_mi M1 b 43 = iZ hd ∧ g_mi M1 b 42 = iZ tm ∧ g_mi M1 b 22 = iZ ((2400 + (p1 + 1) : Nat) : Int) ∧ (lv = true → g_mi M1 b 45 = iB (decide (D e = some 1)) ∧ (∀ v, S e = some v → g_mi M1 b 44 = 1 ∧ g_ml M1 (b + 22) 0 = iL v ∧ -1000000000 ≤ v ∧ v ≤ 1000000000) ∧ (S e = none → g_mi M1 b 44 = 0))
theorem ga_ok {M0 : gM} {R : gM → Prop} {lv : Bool} {p l : Nat} {y : Nat × Nat × Cl} (hN : 500 ≤ N) (hK : 500 ≤ K) (hV : Vk r) (hT : Vt r) (d0 : 0 ≤ dn) (d1 : dn ≤ 1000) (l0 : -1 ≤ lt) (l1 : lt ≤ 1000) (hO : OT r cd vl T) (hR : Rr M0 b r) (h27 : g_mi M0 b 27 = iZ dn) (h28 : g_mi M0 b 28 = iZ lt) (h41 : g_mi M0 b 41 = iZ ((2400 + p : Nat) : Int)) (hp : p ≤ T) (hl : l ≤ 50) (hrc : RC cd vl true p l = .inr y) (hE : ∀ M1, GA M0 M1 b lv (eO r dn lt) y.2.2.1 y.2.2.2.1 y.2.2.2.2.1 y.2.2.2.2.2 y.1 → y.1 ≤ T → y.2.1 ≤ 50 → R M1) : pX9_goesAlong N K M0 b (iZ ((2400 + T : Nat) : Int)) (iB lv) R := by
  have h0 := hO.2.1
  have t4 := hO.1
  have eo : ∀ M, Fga b M0 M → g_mi M b 23 = iZ ((2400 + T : Nat) : Int) → g_mi M b 25 = 1 → Eo N b 2400 T cd vl true (eO r dn lt) M := fun M f e1 e2 => Eo_g hN hV hT d0 d1 l0 l1 hO hR h27 h28 f e1 e2
  -- the end
  have fin : ∀ (M : gM) (hd : Int) (S : Dn) (tm : Int) (D : Dn) (p1 : Nat), Fga b M0 M → g_mi M b 43 = iZ hd → g_mi M b 42 = iZ tm → g_mi M b 22 = iZ ((2400 + p1 : Nat) : Int) → (lv = true → g_mi M b 45 = iB (decide (D (eO r dn lt) = some 1)) ∧ (∀ v, S (eO r dn lt) = some v → g_mi M b 44 = 1 ∧ g_ml M (b + 22) 0 = iL v ∧ -1000000000 ≤ v ∧ v ≤ 1000000000) ∧ (S (eO r dn lt) = none → g_mi M b 44 = 0)) → (∀ M1, GA M0 M1 b lv (eO r dn lt) hd S tm D p1 → R M1) → pX9_goesAlong_179 N K R M b := fun M hd S tm D p1 f e43 e42 e22 hl hE => by
    unfold pX9_goesAlong_179
    intro M1 h1
    rw [e22, iZ_s1, Nat.add_assoc] at h1
    obtain ⟨a1, a2, a3⟩ := wi_k h1
    have ml : g_ml M1 = g_ml M := by rw [h1]; rfl
    refine hE M1 ⟨f.wi (by omega) h1, by rw [a2 _ (by omega)]; exact e43, by rw [a2 _ (by omega)]; exact e42, a3, fun h => ?_⟩
    rw [a2 45 (by omega), a2 44 (by omega), ml]
    exact hl h
  -- the test
  have tst : ∀ (M : gM) (hd : Int) (S : Dn) (tm : Int) (p2 l2 : Nat) (br : Bool), Fga b M0 M → g_mi M b 23 = iZ ((2400 + T : Nat) : Int) → g_mi M b 25 = 1 → g_mi M b 43 = iZ hd → g_mi M b 42 = iZ tm → g_mi M b 22 = iZ ((2400 + p2 : Nat) : Int) → p2 ≤ T → l2 ≤ 50 → (lv = true → (∀ v, S (eO r dn lt) = some v → g_mi M b 44 = 1 ∧ g_ml M (b + 22) 0 = iL v ∧ -1000000000 ≤ v ∧ v ≤ 1000000000) ∧ (S (eO r dn lt) = none → g_mi M b 44 = 0)) → cTest cd vl true p2 l2 hd S tm = .inr y → pX9_goesAlong_126 N K R M b (iB lv) := fun M hd S tm p2 l2 br f e23 e25 e43 e42 e22 hp2 hl2 hs hct => by
    unfold pX9_goesAlong_126
    intro M1 h1
    obtain ⟨a1, a2, a3⟩ := wi_k h1
    have f1 : Fga b M0 M1 := f.wi (by omega) h1
    have ml1 : g_ml M1 = g_ml M := by rw [h1]; rfl
    have eo1 := eo M1 f1 (by rw [a2 _ (by omega)]; exact e23) (by rw [a2 _ (by omega)]; exact e25)
    have g1 : Gt M1 b (2400 + p2) false := ⟨by rw [a2 _ (by omega)]; exact e22, a3⟩
    -- what is told of the test
    have done : ∀ (M2 M3 : gM) (br2 : Bool) (t : Bool) (D : Dn), Fe b M1 M2 → g_ml M2 = g_ml M1 → Gt M2 b (2400 + y.1) br2 → M3 = g_wi M2 b 45 (iB t) → (lv = true → (t && !br2) = decide (D (eO r dn lt) = some 1)) → y.2.2 = (hd, S, tm, D) → y.1 ≤ T → y.2.1 ≤ 50 → pX9_goesAlong_156 N K R M3 b := fun M2 M3 br2 t D f2 ml2 g2 h3 ht hy y1 y2 => by
      obtain ⟨d1, d2, d3⟩ := wi_k h3
      have k2 : ∀ j, j ≠ 22 → j ≠ 24 → g_mi M2 b j = g_mi M1 b j := fun j q1 q2 => f2 b j (Or.inr ⟨q1, q2⟩)
      have f3 : Fga b M0 M3 := (f1.fe f2).wi (by omega) h3
      rw [hy] at hE
      have last : ∀ (M4 : gM) (u : Bool), M4 = g_wi M3 b 45 (iB u) → (lv = true → u = decide (D (eO r dn lt) = some 1)) → pX9_goesAlong_179 N K R M4 b := fun M4 u h4 hu => by
        obtain ⟨u1, u2, u3⟩ := wi_k h4
        have ml4 : g_ml M4 = g_ml M := by rw [h4, h3]; show g_ml M2 = _; rw [ml2, ml1]
        refine fin M4 hd S tm D y.1 (f3.wi (by omega) h4) ?_ ?_ ?_ (fun h => ⟨by rw [u3, hu h], ?_⟩) (fun M5 hM5 => hE M5 hM5 y1 y2)
        · rw [u2 _ (by omega), d2 _ (by omega), k2 _ (by omega) (by omega), a2 _ (by omega)]; exact e43
        · rw [u2 _ (by omega), d2 _ (by omega), k2 _ (by omega) (by omega), a2 _ (by omega)]; exact e42
        · rw [u2 _ (by omega), d2 _ (by omega)]; exact g2.1
        · rw [u2 44 (by omega), d2 44 (by omega), k2 44 (by omega) (by omega), a2 44 (by omega), ml4]
          exact hs h
      unfold pX9_goesAlong_156
      rw [d3, iB_0, d2 24 (by omega), g2.2, iB_0]
      refine ⟨fun z M4 h4 => last M4 false h4 (fun h => ?_), fun z => ⟨fun w M4 h4 => last M4 false h4 (fun h => ?_), fun w M4 h4 => last M4 true h4 (fun h => ?_)⟩⟩
      · rw [← ht h, z]; rfl
      · rw [← ht h]
        cases br2 with
        | true => cases t <;> rfl
        | false => exact absurd rfl w
      · rw [← ht h, w]
        cases t with
        | true => rfl
        | false => exact absurd rfl z
    rcases cTest_R hct with ⟨c3, D, hD, hy⟩ | ⟨c3, hy⟩
    · refine passes_ok (c := 3) eo1 Fe.rf g1 hp2 (by omega) (by omega) (fun _ M5 f5 g5 => ⟨fun z => absurd z one0, fun _ => ?_⟩) (fun z => absurd c3 z)
      have p3 := tk_lt h0 hp2 (by omega)
      have hx2 := PP_in h0 _ _ _ _ _ _ _ _ (by decide) hD p3 hl2
      unfold PPok at hx2
      dsimp only at hx2
      refine EV_all eo1 480 0 0 (p2 + 1) l2 (kD 0) false y.1 y.2.1 D (by decide) (fun z => absurd z (by decide)) hD K M5 _ lv false 0 0 (by omega) f5 g5 p3 hl2 ⟨fun z => absurd z (by decide), fun z => absurd z (by decide), fun z => absurd z (by decide)⟩ (fun M6 v4 w br2 f6 g6 P6 => ?_)
      unfold Pq at P6
      rw [if_pos (by decide)] at P6
      obtain ⟨v01, E6, _⟩ := P6
      sorry
    · sorry
  sorry
end GA
