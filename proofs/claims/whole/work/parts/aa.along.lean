/-! Orders: what their words tell; the reference goes along a clause. -/
def eO (r : Nat → Int) (dn lt : Int) : En := fun c k => if c = 12 then (if 0 ≤ k ∧ k < 3 * r 31 then (dg r k (r 32) (r 31) : Int) else -1) else if c = 13 then r 187 else if c = 14 then dn else if c = 15 then lt else if c = 16 then r 0 else if c = 17 then fdA r k 1 else 0
theorem fdA_b {r : Nat → Int} {k : Int} (hT : Vt r) : -1 ≤ fdA r k 1 ∧ fdA r k 1 ≤ 60 := by
  unfold fdA
  split
  · omega
  · split
    · rw [if_neg (by decide), if_pos rfl]; exact nuF_b hT
    · omega
theorem eO_b {r : Nat → Int} {dn lt : Int} (hV : Vk r) (hT : Vt r) (d0 : 0 ≤ dn) (d1 : dn ≤ 1000) (l0 : -1 ≤ lt) (l1 : lt ≤ 1000) : Eb (eO r dn lt) := fun c k => by
  obtain ⟨v0, v30, _, _, _, _, _, _, t0, t1⟩ := hV
  have := fdA_b (k := k) hT
  have hd := cnt_le (fun i => hv (r (1 + i)) k (r 32) (r 31)) (r 0).toNat
  unfold eO dg
  split
  · split <;> omega
  · split
    · omega
    · split
      · omega
      · split
        · omega
        · split
          · omega
          · split <;> omega
section OV
variable {N K b : Nat} {r : Nat → Int} {dn lt : Int}
theorem ov_9 {M : gM} {R : Int32 → Prop} {c k : Int} (hN : 500 ≤ N) (hV : Vk r) (hT : Vt r) (hR : Rr M b r) (h27 : g_mi M b 27 = iZ dn) (h28 : g_mi M b 28 = iZ lt) (hc : okW c k) (hE : R (iZ (eO r dn lt c k))) : pX9_orderValue N 0 M b (iZ c) (iZ k) R := by
  unfold okW at hc
  have kb : 0 ≤ k ∧ k ≤ 999 := by omega
  have cb : 12 ≤ c ∧ c ≤ 17 := by omega
  unfold pX9_orderValue
  rw [iZ_l12, iZ_eq (by omega) (by omega) (by omega) (by omega), iZ_l13, iZ_eq (by omega) (by omega) (by omega) (by omega), iZ_l14, iZ_eq (by omega) (by omega) (by omega) (by omega), iZ_l15, iZ_eq (by omega) (by omega) (by omega) (by omega), iZ_l16, iZ_eq (by omega) (by omega) (by omega) (by omega)]
  unfold eO at hE
  refine ⟨fun z => ?_, fun z => ⟨fun z2 => ?_, fun z2 => ⟨fun z3 => ?_, fun z3 => ⟨fun z4 => ?_, fun z4 => ⟨fun z5 => ?_, fun z5 => ?_⟩⟩⟩⟩⟩
  · rw [if_pos z] at hE
    obtain ⟨i1, i2⟩ := isV_9 (v := k) hV hR (by omega) (by omega)
    refine ⟨i1, fun v1 hv1 => ?_⟩
    rw [i2] at hv1
    subst hv1
    rw [iB_0, decide_eq_false_iff_not]
    refine ⟨fun w => ?_, fun w => ?_⟩
    · rw [if_neg w] at hE; rw [iZ_n1]; exact hE
    · rw [if_pos (Classical.not_not.mp w)] at hE
      obtain ⟨d1, d2⟩ := dg_9 (N := N) (v := k) (s := r 32) (by omega) hV hR (by omega) (by omega) hV.2.2.2.2.2.2.1 hV.2.2.2.2.2.2.2.1
      rw [hR 32 (by omega)]
      exact ⟨d1, fun v2 hv2 => by rw [hv2, d2]; exact hE⟩
  · rw [if_neg z, if_pos z2] at hE; rw [hR 187 (by omega)]; exact hE
  · rw [if_neg z, if_neg z2, if_pos z3] at hE; rw [h27]; exact hE
  · rw [if_neg z, if_neg z2, if_neg z3, if_pos z4] at hE; rw [h28]; exact hE
  · rw [if_neg z, if_neg z2, if_neg z3, if_neg z4, if_pos z5] at hE; rw [hR 0 (by omega)]; exact hE
  · rw [if_neg z, if_neg z2, if_neg z3, if_neg z4, if_neg z5, if_pos (by omega)] at hE
    rw [iZ_l1]
    exact fd_9 (by omega) hT hR (by omega) (by omega) (by omega) (by omega) hE
/-- going along changes these fields alone -/
def Fga (b : Nat) (M M1 : gM) : Prop := ∀ c j, (c ≠ b ∨ (j ≠ 22 ∧ j ≠ 23 ∧ j ≠ 24 ∧ j ≠ 25 ∧ j ≠ 42 ∧ j ≠ 43 ∧ j ≠ 44 ∧ j ≠ 45)) → g_mi M1 c j = g_mi M c j
theorem Fga.wi {M M1 M2 : gM} {i : Nat} {x : Int32} (h : Fga b M M1) (hi : i = 22 ∨ i = 23 ∨ i = 24 ∨ i = 25 ∨ i = 42 ∨ i = 43 ∨ i = 44 ∨ i = 45) (h2 : M2 = g_wi M1 b i x) : Fga b M M2 := fun c j q => by rw [h2, mi_wi, if_neg (by omega)]; exact h c j q
theorem Fga.fe {M M1 M2 : gM} (h : Fga b M M1) (h2 : Fe b M1 M2) : Fga b M M2 := fun c j q => by rw [h2 c j (by omega)]; exact h c j q
/-- a text of orders in the row, at its place -/
def OT (r cd vl : Nat → Int) (T : Nat) : Prop := T ≤ 400 ∧ cd T = 0 ∧ ∀ i, i < T → r (212 + (2400 + i)) = cd i ∧ r (3012 + (2400 + i)) = vl i ∧ 0 ≤ cd i ∧ cd i ≤ 355 ∧ 0 ≤ vl i ∧ vl i ≤ 20000000
theorem Eo_g {M0 M : gM} {cd vl : Nat → Int} {T : Nat} (hN : 500 ≤ N) (hV : Vk r) (hT : Vt r) (d0 : 0 ≤ dn) (d1 : dn ≤ 1000) (l0 : -1 ≤ lt) (l1 : lt ≤ 1000) (hO : OT r cd vl T) (hR : Rr M0 b r) (h27 : g_mi M0 b 27 = iZ dn) (h28 : g_mi M0 b 28 = iZ lt) (f : Fga b M0 M) (h23 : g_mi M b 23 = iZ ((2400 + T : Nat) : Int)) (h25 : g_mi M b 25 = 1) : Eo N b 2400 T cd vl true (eO r dn lt) M := by
  have R1 : ∀ M2, Fga b M0 M2 → Rr M2 b r := fun M2 f2 => hR.kp (by funext j; exact f2 _ _ (by omega))
  refine ⟨hO.1, by omega, hO.2.1, h23, h25, fun i hi => ?_, fun z => (by cases z), fun _ c k R M2 f2 hc hE => ?_, eO_b hV hT d0 d1 l0 l1⟩
  · have t := hO.2.2 i hi
    have := hO.1
    have R2 := R1 M f
    rw [R2 _ (by omega), R2 _ (by omega), t.1, t.2.1]
    exact ⟨rfl, rfl, t.2.2⟩
  · have f3 := f.fe f2
    exact ov_9 hN hV hT (R1 M2 f3) (by rw [f3 _ _ (by omega)]; exact h27) (by rw [f3 _ _ (by omega)]; exact h28) hc hE
end OV
theorem cTimes_R {cd vl : Nat → Int} {p l : Nat} {hd : Int} {S : Dn} {y : Nat × Nat × Cl} (h : cTimes cd vl true p l hd S = .inr y) : (cd p = 22 ∧ 1 ≤ vl (p + 1) ∧ vl (p + 1) ≤ 20 ∧ cd (p + 1) = 50 ∧ cTest cd vl true (p + 2) l hd S (vl (p + 1)) = .inr y) ∨ (cd p ≠ 22 ∧ cTest cd vl true p l hd S 1 = .inr y) := by
  unfold cTimes at h
  by_cases c : cd p = 22
  · rw [if_pos ⟨rfl, c⟩] at h
    by_cases c2 : cd (p + 1) = 50 ∧ 1 ≤ vl (p + 1) ∧ vl (p + 1) ≤ 20
    · rw [if_pos c2] at h
      exact Or.inl ⟨c, c2.2.1, c2.2.2, c2.1, h⟩
    · rw [if_neg c2] at h; cases h
  · rw [if_neg (fun z => c z.2)] at h
    exact Or.inr ⟨c, h⟩
theorem RC_O {cd vl : Nat → Int} {p l : Nat} {y : Nat × Nat × Cl} (h : RC cd vl true p l = .inr y) : ((cd p = 18 ∨ cd p = 19 ∨ cd p = 20 ∨ cd p = 10) ∧ ∃ p2 l2 S, PP cd vl true 480 6 0 (p + 1) l (kD 0) false = some (.inr (p2, l2, S)) ∧ cTimes cd vl true p2 l2 (cd p) S = .inr y) ∨ (cd p = 21 ∧ cTimes cd vl true (p + 1) l 21 (kD 0) = .inr y) := by
  unfold RC at h
  split at h
  · rename_i c
    have c1 : cd p = 18 ∨ cd p = 19 ∨ cd p = 20 ∨ cd p = 10 := by
      rcases c with c | c
      · exact absurd c.1 (by decide)
      · exact c.2
    left
    refine ⟨c1, ?_⟩
    unfold cSum at h
    cases hp : PP cd vl true 480 6 0 (p + 1) l (kD 0) false with
    | none => rw [hp] at h; cases h
    | some z =>
      cases z with
      | inl e => rw [hp] at h; cases h
      | inr z => rw [hp] at h; exact ⟨z.1, z.2.1, z.2.2, rfl, h⟩
  · split at h
    · rename_i c
      have c1 : cd p = 21 := by
        rcases c with c | c
        · exact absurd c.1 (by decide)
        · exact c.2
      right
      rw [c1] at h
      exact ⟨c1, h⟩
    · cases h
theorem ml_wl {M : gM} {a i : Nat} {v : Int64} : g_ml (g_wl M a i v) a i = v := by rw [g_ml_wl]; simp [g_u2, updV]
section GA
variable {N K b : Nat} {r : Nat → Int} {dn lt : Int} {cd vl : Nat → Int} {T : Nat}
theorem code_O {M0 M : gM} {e : En} {p : Nat} (h : Eo N b 2400 T cd vl true e M0) (f : Fe b M0 M) (hg : g_mi M b 22 = iZ ((2400 + p : Nat) : Int)) (hp : p ≤ T) : EX9_codeAt M b (g_mi M b 22) ∧ fX9_codeAt M b (g_mi M b 22) = iZ (cd p) := by
  obtain ⟨h1, h2, h3, h4, h5, h6, _⟩ := h
  unfold EX9_codeAt fX9_codeAt
  rw [hg, f _ _ (Or.inr (by decide)), h4]
  have cc : (iZ ((2400 + T : Nat) : Int) ≤ iZ ((2400 + p : Nat) : Int)) = (T ≤ p) := by
    rw [iZ_le (by omega) (by omega) (by omega) (by omega)]; exact propext ⟨fun _ => by omega, fun _ => by omega⟩
  rcases Nat.lt_or_ge p T with q | q
  · rw [if_neg (by rw [cc]; omega), show (212 : Int32) = iZ ((212 : Nat) : Int) from rfl, iZ_add]
    refine ⟨fun _ => iZ_in (by omega) (by omega) (by omega), ?_⟩
    rw [iZ_nat (by omega) (by omega), show (((212 : Nat) : Int) + ((2400 + p : Nat) : Int)).toNat = 212 + (2400 + p) by omega, f _ _ (Or.inl (by omega))]
    exact (h6 p q).1
  · have e1 : p = T := by omega
    rw [if_pos (by rw [cc]; omega), e1, h3]
    exact ⟨fun q => absurd (Int32.le_refl _) q, rfl⟩
/-- what is known behind a clause gone along -/
def GA (M M1 : gM) (b : Nat) (lv : Bool) (e : En) (hd : Int) (S : Dn) (tm : Int) (D : Dn) (p1 : Nat) : Prop := Fga b M M1 ∧ g_mi M1 b 43 = iZ hd ∧ g_mi M1 b 42 = iZ tm ∧ g_mi M1 b 22 = iZ ((2400 + (p1 + 1) : Nat) : Int) ∧ (lv = true → g_mi M1 b 45 = iB (decide (D e = some 1)) ∧ (∀ v, S e = some v → g_mi M1 b 44 = 1 ∧ g_ml M1 (b + 22) 0 = iL v ∧ -1000000000 ≤ v ∧ v ≤ 1000000000) ∧ (S e = none → g_mi M1 b 44 = 0))
theorem ga_ok {M0 : gM} {R : gM → Prop} {lv : Bool} {p l : Nat} {y : Nat × Nat × Cl} (hN : 500 ≤ N) (hK : 500 ≤ K) (hV : Vk r) (hT : Vt r) (d0 : 0 ≤ dn) (d1 : dn ≤ 1000) (l0 : -1 ≤ lt) (l1 : lt ≤ 1000) (hO : OT r cd vl T) (hR : Rr M0 b r) (h27 : g_mi M0 b 27 = iZ dn) (h28 : g_mi M0 b 28 = iZ lt) (h41 : g_mi M0 b 41 = iZ ((2400 + p : Nat) : Int)) (hp : p ≤ T) (hl : l ≤ 50) (hrc : RC cd vl true p l = .inr y) (hE : ∀ M1, GA M0 M1 b lv (eO r dn lt) y.2.2.1 y.2.2.2.1 y.2.2.2.2.1 y.2.2.2.2.2 y.1 → y.1 ≤ T → y.2.1 ≤ 50 → R M1) : pZ9_goesAlong N K M0 b (iZ ((2400 + T : Nat) : Int)) (iB lv) R := by
  have h0 := hO.2.1
  have t4 := hO.1
  have eo : ∀ M, Fga b M0 M → g_mi M b 23 = iZ ((2400 + T : Nat) : Int) → g_mi M b 25 = 1 → Eo N b 2400 T cd vl true (eO r dn lt) M := fun M f e1 e2 => Eo_g hN hV hT d0 d1 l0 l1 hO hR h27 h28 f e1 e2
  -- the end
  have fin : ∀ (M : gM) (hd : Int) (S : Dn) (tm : Int) (D : Dn) (p1 : Nat), Fga b M0 M → g_mi M b 43 = iZ hd → g_mi M b 42 = iZ tm → g_mi M b 22 = iZ ((2400 + p1 : Nat) : Int) → (lv = true → g_mi M b 45 = iB (decide (D (eO r dn lt) = some 1)) ∧ (∀ v, S (eO r dn lt) = some v → g_mi M b 44 = 1 ∧ g_ml M (b + 22) 0 = iL v ∧ -1000000000 ≤ v ∧ v ≤ 1000000000) ∧ (S (eO r dn lt) = none → g_mi M b 44 = 0)) → (∀ M1, GA M0 M1 b lv (eO r dn lt) hd S tm D p1 → R M1) → pZ9_goesAlong_179 N K R M b := fun M hd S tm D p1 f e43 e42 e22 hl hE => by
    unfold pZ9_goesAlong_179
    intro M1 h1
    rw [e22, iZ_s1, Nat.add_assoc] at h1
    obtain ⟨a1, a2, a3⟩ := wi_k h1
    have ml : g_ml M1 = g_ml M := by rw [h1]; rfl
    refine hE M1 ⟨f.wi (by omega) h1, by rw [a2 _ (by omega)]; exact e43, by rw [a2 _ (by omega)]; exact e42, a3, fun h => ?_⟩
    rw [a2 45 (by omega), a2 44 (by omega), ml]
    exact hl h
  -- the test
  have tst : ∀ (M : gM) (hd : Int) (S : Dn) (tm : Int) (p2 l2 : Nat), Fga b M0 M → g_mi M b 23 = iZ ((2400 + T : Nat) : Int) → g_mi M b 25 = 1 → g_mi M b 43 = iZ hd → g_mi M b 42 = iZ tm → g_mi M b 22 = iZ ((2400 + p2 : Nat) : Int) → p2 ≤ T → l2 ≤ 50 → (lv = true → (∀ v, S (eO r dn lt) = some v → g_mi M b 44 = 1 ∧ g_ml M (b + 22) 0 = iL v ∧ -1000000000 ≤ v ∧ v ≤ 1000000000) ∧ (S (eO r dn lt) = none → g_mi M b 44 = 0)) → cTest cd vl true p2 l2 hd S tm = .inr y → pZ9_goesAlong_126 N K R M b (iB lv) := fun M hd S tm p2 l2 f e23 e25 e43 e42 e22 hp2 hl2 hs hct => by
    unfold pZ9_goesAlong_126
    intro M1 h1
    obtain ⟨a1, a2, a3⟩ := wi_k h1
    have f1 : Fga b M0 M1 := f.wi (by omega) h1
    have ml1 : g_ml M1 = g_ml M := by rw [h1]; rfl
    have eo1 := eo M1 f1 (by rw [a2 _ (by omega)]; exact e23) (by rw [a2 _ (by omega)]; exact e25)
    have g1 : Gt M1 b (2400 + p2) false := ⟨by rw [a2 _ (by omega)]; exact e22, a3⟩
    -- what is told of the test
    have done : ∀ (M2 M3 : gM) (br2 : Bool) (t : Bool) (D : Dn), Fe b M1 M2 → g_ml M2 = g_ml M1 → Gt M2 b (2400 + y.1) br2 → M3 = g_wi M2 b 45 (iB t) → (lv = true → (t && !br2) = decide (D (eO r dn lt) = some 1)) → y.2.2 = (hd, S, tm, D) → y.1 ≤ T → y.2.1 ≤ 50 → pZ9_goesAlong_156 N K R M3 b := fun M2 M3 br2 t D f2 ml2 g2 h3 ht hy y1 y2 => by
      obtain ⟨d1, d2, d3⟩ := wi_k h3
      have k2 : ∀ j, j ≠ 22 → j ≠ 24 → g_mi M2 b j = g_mi M1 b j := fun j q1 q2 => f2 b j (Or.inr ⟨q1, q2⟩)
      have f3 : Fga b M0 M3 := (f1.fe f2).wi (by omega) h3
      rw [hy] at hE
      have last : ∀ (M4 : gM) (u : Bool), M4 = g_wi M3 b 45 (iB u) → (lv = true → u = decide (D (eO r dn lt) = some 1)) → pZ9_goesAlong_179 N K R M4 b := fun M4 u h4 hu => by
        obtain ⟨u1, u2, u3⟩ := wi_k h4
        have ml4 : g_ml M4 = g_ml M := by rw [h4, h3]; show g_ml M2 = _; rw [ml2, ml1]
        refine fin M4 hd S tm D y.1 (f3.wi (by omega) h4) ?_ ?_ ?_ (fun h => ⟨by rw [u3, hu h], ?_⟩) (fun M5 hM5 => hE M5 hM5 y1 y2)
        · rw [u2 _ (by omega), d2 _ (by omega), k2 _ (by omega) (by omega), a2 _ (by omega)]; exact e43
        · rw [u2 _ (by omega), d2 _ (by omega), k2 _ (by omega) (by omega), a2 _ (by omega)]; exact e42
        · rw [u2 _ (by omega), d2 _ (by omega)]; exact g2.1
        · rw [u2 44 (by omega), d2 44 (by omega), k2 44 (by omega) (by omega), a2 44 (by omega), ml4]
          exact hs h
      unfold pZ9_goesAlong_156
      rw [d3, iB_0, d2 24 (by omega), g2.2, iB_0]
      refine ⟨fun z M4 h4 => last M4 false h4 (fun h => ?_), fun z => ⟨fun w M4 h4 => last M4 false h4 (fun h => ?_), fun w M4 h4 => last M4 true h4 (fun h => ?_)⟩⟩
      · rw [← ht h, z]; rfl
      · rw [← ht h]
        cases br2 with
        | true => cases t <;> rfl
        | false => exact absurd rfl w
      · rw [← ht h, w]
        cases t with
        | true => rfl
        | false => exact absurd rfl z
    rcases cTest_R hct with ⟨c3, D, hD, hy⟩ | ⟨c3, hy⟩
    · refine passes_ok (c := 3) eo1 Fe.rf g1 hp2 (by omega) (by omega) (fun _ M5 f5 g5 jj5 => ⟨fun z => absurd z one0, fun _ => ?_⟩) (fun z => absurd c3 z)
      have p3 := tk_lt h0 hp2 (by omega)
      have hx2 := PP_in h0 _ _ _ _ _ _ _ _ (by decide) hD p3 hl2
      unfold PPok at hx2
      dsimp only at hx2
      refine EV_all eo1 480 0 0 (p2 + 1) l2 (kD 0) false y.1 y.2.1 D (by decide) (fun z => absurd z (by decide)) hD K M5 _ lv false 0 0 (by omega) f5 g5 p3 hl2 ⟨fun z => absurd z (by decide), fun z => absurd z (by decide), fun z => absurd z (by decide)⟩ (fun M6 v4 w br2 f6 g6 P6 => ?_)
      intro jj6
      unfold Pq at P6
      rw [if_pos (by decide)] at P6
      obtain ⟨v01, E6, _⟩ := P6
      have ml6 : g_ml M6 = g_ml M1 := jj6.2.2.2.trans jj5.2.2.2
      refine ⟨fun z M7 h7 => done M6 M7 br2 false D (f5.tr f6) ml6 g6 h7 (fun h => ?_) hy hx2.2.1 hx2.2.2.2, fun z M7 h7 => done M6 M7 br2 true D (f5.tr f6) ml6 g6 h7 (fun h => ?_) hy hx2.2.1 hx2.2.2.2⟩
      · obtain ⟨E6a, E6b⟩ := E6 h rfl
        have nd : D (eO r dn lt) ≠ some 1 := fun w1 => by
          have := (E6a 1 w1).1.1
          rw [this] at z; exact absurd z (by decide)
        rw [decide_eq_false nd]; rfl
      · obtain ⟨E6a, E6b⟩ := E6 h rfl
        cases hde : D (eO r dn lt) with
        | none => rw [E6b hde]; rfl
        | some u =>
          obtain ⟨⟨u1, u2⟩, u3⟩ := E6a u hde
          rcases u2 with u2 | u2
          · rw [u1, u2] at z; exact absurd rfl z
          · rw [u3, u2]; rfl
    · refine passes_ok (c := 3) eo1 Fe.rf g1 hp2 (by omega) (by omega) (fun z => absurd z c3) (fun _ jj => ⟨fun _ M3 h3 => ?_, fun z => absurd rfl z⟩)
      exact done M1 M3 false true (kD 1) Fe.rf rfl (by rw [hy]; exact g1) h3 (fun _ => rfl) (by rw [hy]) (by rw [hy]; exact hp2) (by rw [hy]; exact hl2)
  -- how often
  have tms : ∀ (M : gM) (hd : Int) (S : Dn) (p2 l2 : Nat) (br : Bool), Fga b M0 M → g_mi M b 23 = iZ ((2400 + T : Nat) : Int) → g_mi M b 25 = 1 → g_mi M b 43 = iZ hd → Gt M b (2400 + p2) br → p2 ≤ T → l2 ≤ 50 → (lv = true → (∀ v, S (eO r dn lt) = some v → g_mi M b 44 = 1 ∧ g_ml M (b + 22) 0 = iL v ∧ -1000000000 ≤ v ∧ v ≤ 1000000000) ∧ (S (eO r dn lt) = none → g_mi M b 44 = 0)) → cTimes cd vl true p2 l2 hd S = .inr y → pZ9_goesAlong_85 N K R M b (iB lv) := fun M hd S p2 l2 br f e23 e25 e43 g hp2 hl2 hs hct => by
    unfold pZ9_goesAlong_85
    intro M1 h1
    obtain ⟨a1, a2, a3⟩ := wi_k h1
    have f1 : Fga b M0 M1 := f.wi (by omega) h1
    have ml1 : g_ml M1 = g_ml M := by rw [h1]; rfl
    have eo1 := eo M1 f1 (by rw [a2 _ (by omega)]; exact e23) (by rw [a2 _ (by omega)]; exact e25)
    have g1 : Gt M1 b (2400 + p2) br := ⟨by rw [a2 _ (by omega)]; exact g.1, by rw [a2 _ (by omega)]; exact g.2⟩
    rcases cTimes_R hct with ⟨c22, v1, v20, c50, hct2⟩ | ⟨c22, hct2⟩
    · refine passes_ok (c := 22) eo1 Fe.rf g1 hp2 (by omega) (by omega) (fun _ M2 f2 g2 jj => ⟨fun z => absurd z one0, fun _ => ?_⟩) (fun z => absurd c22 z)
      have p3 := tk_lt h0 hp2 (by omega)
      have p4 := tk_lt (p := p2 + 1) h0 p3 (by omega)
      have f12 := f1.fe f2
      have R2 : Rr M2 b r := hR.kp (by funext j; exact f12 _ _ (by omega))
      have k2 : ∀ j, j ≠ 22 → j ≠ 24 → g_mi M2 b j = g_mi M1 b j := fun j q1 q2 => f2 b j (Or.inr ⟨q1, q2⟩)
      rw [g2.1, show (3012 : Int32) = iZ ((3012 : Nat) : Int) from rfl, iZ_add]
      refine ⟨iZ_in (by omega) (by omega) (by omega), fun M3 h3 M4 h4 => ?_⟩
      rw [iZ_nat (by omega) (by omega), show (((3012 : Nat) : Int) + ((2400 + (p2 + 1) : Nat) : Int)).toNat = 3012 + (2400 + (p2 + 1)) by omega, R2 _ (by omega), (hO.2.2 (p2 + 1) (by omega)).2.1] at h3
      obtain ⟨c1, c2, c3⟩ := wi_k h3
      rw [c2 22 (by omega), g2.1, iZ_s1, show 2400 + (p2 + 1) + 1 = 2400 + (p2 + 2) by omega] at h4
      obtain ⟨d1, d2, d3⟩ := wi_k h4
      have ml4 : g_ml M4 = g_ml M := by rw [h4, h3]; show g_ml M2 = _; rw [jj.2.2.2, ml1]
      refine tst M4 hd S (vl (p2 + 1)) (p2 + 2) l2 ((f12.wi (by omega) h3).wi (by omega) h4) ?_ ?_ ?_ ?_ d3 p4 hl2 ?_ hct2
      · rw [d2 _ (by omega), c2 _ (by omega), k2 _ (by omega) (by omega), a2 _ (by omega)]; exact e23
      · rw [d2 _ (by omega), c2 _ (by omega), k2 _ (by omega) (by omega), a2 _ (by omega)]; exact e25
      · rw [d2 _ (by omega), c2 _ (by omega), k2 _ (by omega) (by omega), a2 _ (by omega)]; exact e43
      · rw [d2 _ (by omega)]; exact c3
      · intro h
        rw [d2 44 (by omega), c2 44 (by omega), k2 44 (by omega) (by omega), a2 44 (by omega), ml4]
        exact hs h
    · refine passes_ok (c := 22) eo1 Fe.rf g1 hp2 (by omega) (by omega) (fun z => absurd z c22) (fun _ jj => ⟨fun _ => ?_, fun z => absurd rfl z⟩)
      refine tst M1 hd S 1 p2 l2 f1 ?_ ?_ ?_ a3 g1.1 hp2 hl2 ?_ hct2
      · rw [a2 _ (by omega)]; exact e23
      · rw [a2 _ (by omega)]; exact e25
      · rw [a2 _ (by omega)]; exact e43
      · intro h
        rw [a2 44 (by omega), ml1]
        exact hs h
  -- behind the sum
  have sm : ∀ (M : gM) (hd : Int) (S : Dn) (p2 l2 : Nat) (br : Bool), Fga b M0 M → g_mi M b 23 = iZ ((2400 + T : Nat) : Int) → g_mi M b 25 = 1 → g_mi M b 43 = iZ hd → Gt M b (2400 + p2) br → p2 ≤ T → l2 ≤ 50 → (lv = true → (∀ v, S (eO r dn lt) = some v → br = false ∧ g_ml M (b + 22) 0 = iL v ∧ -1000000000 ≤ v ∧ v ≤ 1000000000) ∧ (S (eO r dn lt) = none → br = true)) → cTimes cd vl true p2 l2 hd S = .inr y → pZ9_goesAlong_69 N K R M b (iB lv) := fun M hd S p2 l2 br f e23 e25 e43 g hp2 hl2 hs hct => by
    unfold pZ9_goesAlong_69
    rw [g.2, iB_0]
    have k : ∀ M1 (t : Bool), t = !br → M1 = g_wi M b 44 (iB t) → pZ9_goesAlong_85 N K R M1 b (iB lv) := fun M1 t ht h1 => by
      obtain ⟨a1, a2, a3⟩ := wi_k h1
      have ml1 : g_ml M1 = g_ml M := by rw [h1]; rfl
      refine tms M1 hd S p2 l2 br (f.wi (by omega) h1) ?_ ?_ ?_ ⟨?_, ?_⟩ hp2 hl2 (fun h => ⟨fun v hv => ?_, fun hv => ?_⟩) hct
      · rw [a2 _ (by omega)]; exact e23
      · rw [a2 _ (by omega)]; exact e25
      · rw [a2 _ (by omega)]; exact e43
      · rw [a2 _ (by omega)]; exact g.1
      · rw [a2 _ (by omega)]; exact g.2
      · obtain ⟨q1, q2⟩ := (hs h).1 v hv
        rw [a3, ml1, ht, q1]; exact ⟨rfl, q2⟩
      · rw [a3, ht, (hs h).2 hv]; rfl
    refine ⟨fun z M1 h1 => k M1 false ?_ h1, fun z M1 h1 => k M1 true ?_ h1⟩
    · cases br with
      | true => rfl
      | false => exact absurd rfl z
    · rw [z]; rfl
  unfold pZ9_goesAlong
  intro M1 h1 M2 h2 M3 h3
  obtain ⟨a1, a2, a3⟩ := wi_k h1
  obtain ⟨b1, b2, b3⟩ := wi_k h2
  rw [b2 41 (by omega), a2 41 (by omega), h41] at h3
  obtain ⟨c1, c2, c3⟩ := wi_k h3
  have f3 : Fga b M0 M3 := ((Fga.wi (M1 := M0) (fun _ _ _ => rfl) (by omega) h1).wi (by omega) h2).wi (by omega) h3
  have e23 : g_mi M3 b 23 = iZ ((2400 + T : Nat) : Int) := by rw [c2 _ (by omega)]; exact b3
  have e25 : g_mi M3 b 25 = 1 := by rw [c2 _ (by omega), b2 _ (by omega)]; exact a3
  have eo3 := eo M3 f3 e23 e25
  obtain ⟨q1, q2⟩ := code_O eo3 Fe.rf c3 hp
  refine ⟨q1, fun v1 hv1 M4 h4 M5 h5 M6 h6 => ?_⟩
  rw [q2] at hv1
  subst hv1
  obtain ⟨d1, d2, d3⟩ := wi_k h4
  rw [d2 22 (by omega), c3, iZ_s1, Nat.add_assoc] at h5
  obtain ⟨e1, e2, e3⟩ := wi_k h5
  obtain ⟨g1, g2, g3⟩ := wi_k h6
  have f6 : Fga b M0 M6 := ((f3.wi (by omega) h4).wi (by omega) h5).wi (by omega) h6
  have i23 : g_mi M6 b 23 = iZ ((2400 + T : Nat) : Int) := by rw [g2 _ (by omega), e2 _ (by omega), d2 _ (by omega)]; exact e23
  have i25 : g_mi M6 b 25 = 1 := by rw [g2 _ (by omega), e2 _ (by omega), d2 _ (by omega)]; exact e25
  have i43 : g_mi M6 b 43 = iZ (cd p) := by rw [g2 _ (by omega), e2 _ (by omega)]; exact d3
  have G6 : Gt M6 b (2400 + (p + 1)) false := ⟨by rw [g2 _ (by omega)]; exact e3, g3⟩
  have eo6 := eo M6 f6 i23 i25
  have c0 : cd p ≠ 0 := by rcases RC_O hrc with ⟨c, _⟩ | ⟨c, _⟩ <;> omega
  have hpT := tk_lt h0 hp c0
  rw [i43]
  rcases RC_O hrc with ⟨c, p2, l2, S, hS, hct⟩ | ⟨c, hct⟩
  · refine ⟨fun _ => ?_, fun z => absurd z ?_⟩
    · have hx2 := PP_in h0 _ _ _ _ _ _ _ _ (by decide) hS hpT hl
      unfold PPok at hx2
      dsimp only at hx2
      refine EV_all eo6 480 6 0 (p + 1) l (kD 0) false p2 l2 S (by decide) (fun z => absurd z (by decide)) hS K M6 _ lv false 0 0 (by omega) Fe.rf G6 hpT hl ⟨fun z => absurd z (by decide), fun z => absurd z (by decide), fun z => absurd z (by decide)⟩ (fun M7 v3 w br2 f7 g7 P7 => ?_)
      intro jj M8 h8
      unfold Pq at P7
      rw [if_neg (by decide)] at P7
      have m8 : g_mi M8 = g_mi M7 := by rw [h8]; rfl
      have f67 := f6.fe f7
      refine sm M8 (cd p) S p2 l2 br2 (fun c j q => by rw [m8]; exact f67 c j q) ?_ ?_ ?_ ⟨by rw [m8]; exact g7.1, by rw [m8]; exact g7.2⟩ hx2.2.1 hx2.2.2.2 (fun h => ⟨fun v hv => ?_, fun hv => ?_⟩) hct
      · rw [m8, f7 _ _ (Or.inr (by decide))]; exact i23
      · rw [m8, f7 _ _ (Or.inr (by decide))]; exact i25
      · rw [m8, f7 _ _ (Or.inr (by decide))]; exact i43
      · obtain ⟨⟨u1, u2, u3⟩, u4⟩ := (P7.1 h rfl).1 v hv
        refine ⟨u4, ?_, u2, u3⟩
        rw [h8, ml_wl, u1]
      · exact (P7.1 h rfl).2 hv
    · rw [show (21 : Int32) = iZ 21 from rfl, iZ_eq (by omega) (by omega) (by omega) (by omega)]; omega
  · rw [c]
    refine ⟨fun z => absurd rfl z, fun _ M9 h9 => ?_⟩
    have m9 : g_mi M9 = g_mi M6 := by rw [h9]; rfl
    refine sm M9 21 (kD 0) (p + 1) l false (fun c j q => by rw [m9]; exact f6 c j q) ?_ ?_ ?_ ⟨by rw [m9]; exact G6.1, by rw [m9]; exact G6.2⟩ hpT hl (fun h => ⟨fun v hv => ?_, fun hv => (by cases hv)⟩) hct
    · rw [m9]; exact i23
    · rw [m9]; exact i25
    · rw [m9, i43, c]
    · cases hv
      refine ⟨rfl, ?_, by decide, by decide⟩
      rw [h9, ml_wl]; rfl
theorem RC_tm {p l : Nat} {y : Nat × Nat × Cl} (h : RC cd vl true p l = .inr y) : 1 ≤ y.2.2.2.2.1 ∧ y.2.2.2.2.1 ≤ 20 ∧ (y.2.2.1 = 18 ∨ y.2.2.1 = 19 ∨ y.2.2.1 = 20 ∨ y.2.2.1 = 10 ∨ y.2.2.1 = 21) := by
  have t : ∀ p2 l2 hd S tm, cTest cd vl true p2 l2 hd S tm = .inr y → y.2.2.2.2.1 = tm ∧ y.2.2.1 = hd := fun p2 l2 hd S tm h => by
    rcases cTest_R h with ⟨_, D, _, hy⟩ | ⟨_, hy⟩
    · rw [hy]; exact ⟨rfl, rfl⟩
    · rw [hy]; exact ⟨rfl, rfl⟩
  have t2 : ∀ p2 l2 hd S, cTimes cd vl true p2 l2 hd S = .inr y → 1 ≤ y.2.2.2.2.1 ∧ y.2.2.2.2.1 ≤ 20 ∧ y.2.2.1 = hd := fun p2 l2 hd S h => by
    rcases cTimes_R h with ⟨_, v1, v2, _, h⟩ | ⟨_, h⟩
    · have := t _ _ _ _ _ h; omega
    · have := t _ _ _ _ _ h; omega
  rcases RC_O h with ⟨c, p2, l2, S, _, h⟩ | ⟨c, h⟩
  · have := t2 _ _ _ _ h; omega
  · have := t2 _ _ _ _ h; omega
end GA
