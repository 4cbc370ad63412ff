/-! Orders: the reference obeys, runs a clause. -/
def smO (v : Int) : Int := if 0 ≤ v ∧ v ≤ 1000000 then v else -1
theorem sm_9 {v : Int} (h1 : -1000000000 ≤ v) (h2 : v ≤ 1000000000) : fX9_small (iL v) = iZ (smO v) := by
  unfold fX9_small smO
  have e1 : (lg_cmp (iL v) 0 < 0) = (v < 0) := by
    rw [propext (lg_cmp_lt _ _), show (0 : Int64) = iL 0 from rfl, iL_lt (by omega) (by omega) (by omega) (by omega)]
  have e2 : (lg_cmp (iL v) 1000000 ≤ 0) = (v ≤ 1000000) := by
    rw [propext (lg_cmp_le _ _), show (1000000 : Int64) = iL 1000000 from rfl, iL_le (by omega) (by omega) (by omega) (by omega)]
  simp only [e1, e2, iZ_L (show -9223372036854775808 ≤ v by omega) (by omega)]
  by_cases c : v < 0
  · rw [if_pos c, if_neg (by omega)]; exact iZ_n1
  · rw [if_neg c]
    by_cases c2 : v ≤ 1000000
    · rw [if_pos c2, if_pos (by omega)]
    · rw [if_neg c2, if_neg (by omega)]; exact iZ_n1
theorem acA_sm {law : List (Nat × Cl)} {r : Nat → Int} {kind : Nat} {v : Int} (hV : Vk r) : acA law r kind (smO v) = acA law r kind v := by
  by_cases c : 0 ≤ v ∧ v ≤ 1000000
  · unfold smO; rw [if_pos c]
  · unfold smO; rw [if_neg c]
    have c1 : ∀ w : Int, (w = -1 ∨ w = v) → ¬ (0 ≤ w ∧ w ≤ 999) ∧ ¬ (2 ≤ w ∧ w ≤ 20) ∧ ¬ (0 ≤ w ∧ w ≤ 255) := fun w hw => by omega
    have k : ∀ w : Int, (w = -1 ∨ w = v) → acA law r kind w = if kind < 4 then (-1, r) else bdA law r := fun w hw => by
      obtain ⟨w1, w2, w3⟩ := c1 w hw
      unfold acA
      by_cases k0 : kind = 0
      · rw [if_pos k0, if_pos (by omega)]; unfold adA; rw [if_neg w1]
      · rw [if_neg k0]
        by_cases k1 : kind = 1
        · rw [if_pos k1, if_pos (by omega)]; unfold takeA; rw [if_pos w1]
        · rw [if_neg k1]
          by_cases k2 : kind = 2
          · rw [if_pos k2, if_pos (by omega)]; unfold sideA; rw [if_pos w2]
          · rw [if_neg k2]
            by_cases k3 : kind = 3
            · rw [if_pos k3, if_pos (by omega)]; unfold seedA; rw [if_pos w3]
            · rw [if_neg k3, if_neg (by omega)]
    rw [k _ (Or.inl rfl), k _ (Or.inr rfl)]
/-- what the reference changes while it obeys -/
def Fob (b : Nat) (M M1 : gM) : Prop := ∀ c j, c ≠ b + 2 → (c ≠ b + 5 ∨ j < 376) → c ≠ b + 19 → (c < b + 12 ∨ b + 18 < c) → (c ≠ b ∨ (j ≠ 22 ∧ j ≠ 23 ∧ j ≠ 24 ∧ j ≠ 25 ∧ j ≠ 28 ∧ j ≠ 35 ∧ j ≠ 38)) → g_mi M1 c j = g_mi M c j
section OB9
variable {N K b : Nat} {r : Nat → Int} {law : List (Nat × Cl)} {H : HL} {hd v lt : Int}
theorem ob_9 {M : gM} {R : Int32 → gM → Prop} (hN : 4000 ≤ N) (hK : 500 ≤ K) (hV : Vk r) (hm : Vm r) (hR : Rr M b r) (hF : FL r law) (hH : RLh M b H) (h43 : g_mi M b 43 = iZ hd) (hh : hd = 18 ∨ hd = 19 ∨ hd = 20 ∨ hd = 10 ∨ hd = 21) (hl : g_ml M (b + 22) 0 = iL v) (v1 : -1000000000 ≤ v) (v2 : v ≤ 1000000000) (h28 : g_mi M b 28 = iZ lt) (hE : ∀ M1, Fob b M M1 → Rr M1 b (acA law r (hkO hd) v).2 → RLh M1 b (ansH H r (hkO hd) (acA law r (hkO hd) v).1) → g_mi M1 b 28 = iZ (if hkO hd = 4 ∧ 0 ≤ (acA law r (hkO hd) v).1 then (acA law r (hkO hd) v).1 else lt) → R (iZ (acA law r (hkO hd) v).1) M1) : pX9_obeys N K M b R := by
  unfold pX9_obeys
  intro w hw
  rw [hl, sm_9 v1 v2] at hw
  subst hw
  have sb : -2147483648 ≤ smO v ∧ smO v < 2147483648 := by unfold smO; split <;> omega
  have e : ∀ k : Int, -1000 ≤ k → k ≤ 1000 → (g_mi M b 43 = iZ k) = (hd = k) := fun k k1 k2 => by rw [h43, iZ_eq (by omega) (by omega) (by omega) (by omega)]
  rw [show (10 : Int32) = iZ 10 from rfl, show (18 : Int32) = iZ 18 from rfl, show (19 : Int32) = iZ 19 from rfl, show (20 : Int32) = iZ 20 from rfl, e 10 (by omega) (by omega), e 18 (by omega) (by omega), e 19 (by omega) (by omega), e 20 (by omega) (by omega)]
  have fk : ∀ M1, Fak b M M1 → Fob b M M1 ∧ g_mi M1 b 28 = iZ lt := fun M1 f => ⟨fun c j q1 q2 q3 q4 q5 => f c j q1 q2 q3 q4 (by omega), by rw [f _ _ (by omega) (by omega) (by omega) (by omega) (by omega)]; exact h28⟩
  rw [← acA_sm hV] at hE
  refine ⟨fun z => ?_, fun z => ⟨fun z1 => ?_, fun z1 => ⟨fun z2 => ?_, fun z2 => ⟨fun z3 => ?_, fun z3 => ?_⟩⟩⟩⟩
  · subst z
    rw [show hkO 10 = 3 by decide, if_neg (by omega)] at hE
    exact kE_9 (cs := law) hN hV hR hH sb.1 sb.2 (fun M1 f1 R1 H1 => hE M1 (fk M1 f1).1 R1 H1 (fk M1 f1).2)
  · subst z1
    rw [show hkO 18 = 0 by decide, if_neg (by omega)] at hE
    exact kA_9 (cs := law) hN hK hV hm hR hF hH sb.1 sb.2 (fun M1 f1 R1 H1 => hE M1 (fk M1 f1).1 R1 H1 (fk M1 f1).2)
  · subst z2
    rw [show hkO 19 = 1 by decide, if_neg (by omega)] at hE
    exact kT_9 (cs := law) hN hV hR hH sb.1 sb.2 (fun M1 f1 R1 H1 => hE M1 (fk M1 f1).1 R1 H1 (fk M1 f1).2)
  · subst z3
    rw [show hkO 20 = 2 by decide, if_neg (by omega)] at hE
    exact kS_9 (cs := law) hN hV hR hH sb.1 sb.2 (fun M1 f1 R1 H1 => hE M1 (fk M1 f1).1 R1 H1 (fk M1 f1).2)
  · have z4 : hd = 21 := by omega
    subst z4
    rw [show hkO 21 = 4 by decide] at hE
    have ab := acA_b (cs := law) (kind := 4) (x := smO v) hV
    refine kB_9 (cs := law) (x := smO v) hN hK hV hm hR hF hH (fun M1 f1 R1 H1 => ?_)
    generalize acA law r 4 (smO v) = a at *
    have c1 : (0 ≤ iZ a.1) = (0 ≤ a.1) := by rw [iZ_l0, iZ_le (by omega) (by omega) (by omega) (by omega)]
    rw [c1]
    have last : ∀ (M2 : gM) (x : Int32), M2 = g_wi M1 b 28 x → x = iZ (if (4 : Nat) = 4 ∧ 0 ≤ a.1 then a.1 else lt) → R (iZ a.1) M2 := fun M2 x h2 hx => by
      obtain ⟨a1, a2, a3⟩ := wi_k h2
      refine hE M2 (fun c j q1 q2 q3 q4 q5 => ?_) (R1.kp (a1 _ (by omega))) (H1.keep (a2 _ (by omega)) (a1 _ (by omega))) (by rw [a3]; exact hx)
      by_cases q : c = b
      · subst q
        rw [a2 j (by omega), f1 _ j (by omega) (by omega) (by omega) (by omega) (by omega)]
      · rw [a1 c q, f1 c j q1 q2 q3 q4 (by omega)]
    refine ⟨fun q M2 h2 => last M2 _ h2 (by rw [if_pos ⟨rfl, q⟩]), fun q M2 h2 => last M2 _ h2 ?_⟩
    rw [if_neg (fun y => q y.2)]
    exact (fk M1 f1).2
end OB9
/-- what the reference changes while orders run -/
def Fro (b : Nat) (M M1 : gM) : Prop := ∀ c j, c ≠ b + 2 → (c ≠ b + 5 ∨ j < 376) → c ≠ b + 19 → (c < b + 12 ∨ b + 18 < c) → (c ≠ b ∨ (j ≠ 22 ∧ j ≠ 23 ∧ j ≠ 24 ∧ j ≠ 25 ∧ j ≠ 27 ∧ j ≠ 28 ∧ j ≠ 35 ∧ j ≠ 38 ∧ j ≠ 41 ∧ j ≠ 42 ∧ j ≠ 43 ∧ j ≠ 44 ∧ j ≠ 45)) → g_mi M1 c j = g_mi M c j
theorem Fro.rf {b : Nat} {M : gM} : Fro b M M := fun _ _ _ _ _ _ _ => rfl
theorem Fro.tr {b : Nat} {M M1 M2 : gM} (h : Fro b M M1) (h2 : Fro b M1 M2) : Fro b M M2 := fun c j q1 q2 q3 q4 q5 => (h2 c j q1 q2 q3 q4 q5).trans (h c j q1 q2 q3 q4 q5)
theorem Fga.ro {b : Nat} {M M1 : gM} (h : Fga b M M1) : Fro b M M1 := fun c j q1 q2 q3 q4 q5 => h c j (by omega)
theorem Fob.ro {b : Nat} {M M1 : gM} (h : Fob b M M1) : Fro b M M1 := fun c j q1 q2 q3 q4 q5 => h c j q1 q2 q3 q4 (by omega)
theorem Fro.wi {b i : Nat} {M M1 : gM} {x : Int32} (hi : i = 27 ∨ i = 28 ∨ i = 41) (h : M1 = g_wi M b i x) : Fro b M M1 := fun c j q1 q2 q3 q4 q5 => by rw [h, mi_wi, if_neg (by omega)]
/-- the reference's state in orders -/
def RO9 (M : gM) (b : Nat) (H : HL) (s : OSt) : Prop := Rr M b s.1 ∧ RLh M b (lst (H ++ s.2.1)) ∧ g_mi M b 27 = iZ s.2.2.1 ∧ g_mi M b 28 = iZ s.2.2.2
theorem RO9.ga {M M1 : gM} {b : Nat} {H : HL} {s : OSt} (h : RO9 M b H s) (f : Fga b M M1) : RO9 M1 b H s := by
  obtain ⟨h1, h2, h3, h4⟩ := h
  exact ⟨h1.kp (by funext j; exact f _ _ (by omega)), h2.keep (f _ _ (by omega)) (by funext j; exact f _ _ (by omega)), by rw [f _ _ (by omega)]; exact h3, by rw [f _ _ (by omega)]; exact h4⟩
section RN9
variable {N K b T p l : Nat} {r0 : Nat → Int} {law : List (Nat × Cl)} {H : HL} {cd vl : Nat → Int} {y : Nat × Nat × Cl} {M0 : gM} {R : Int32 → gM → Prop}
theorem OT.vo {n : Int} {s : OSt} (h : OT r0 cd vl T) (hV : VO r0 n s) : OT s.1 cd vl T := ⟨h.1, h.2.1, fun i hi => by rw [hV.2.2.1 _ (by omega), hV.2.2.1 _ (by omega)]; exact h.2.2 i hi⟩
theorem rn_loop (hN : 4000 ≤ N) (hK : 500 ≤ K) (hm : bd9 (r0 201)) (hF : FL r0 law) (hO : OT r0 cd vl T) (hp : p ≤ T) (hl : l ≤ 50) (hrc : RC cd vl true p l = .inr y) (hc : Clb true y.2.2) : ∀ (k j n : Nat) (M : gM) (s : OSt) (nn : Int), (j + k : Int) = y.2.2.2.2.1 → k + 1 ≤ n → nn + k ≤ 1000 → VO r0 nn s → Fro b M0 M → RO9 M b H s → g_mi M b 41 = iZ ((2400 + p : Nat) : Int) → (rnO law y.2.2 k s = none → ∀ M1 r2, Fro b M0 M1 → Rr M1 b r2 → (∀ i, 188 ≤ i → r2 i = r0 i) → R 0 M1) → (∀ s2, rnO law y.2.2 k s = some s2 → ∀ M1, Fro b M0 M1 → RO9 M1 b H s2 → g_mi M1 b 41 = iZ ((2400 + (y.1 + 1) : Nat) : Int) → R 1 M1) → qZ9_runs N K R n 0 M b (iZ ((2400 + T : Nat) : Int)) (iZ y.2.2.2.2.1) (iZ ((2400 + (y.1 + 1) : Nat) : Int)) (iZ j) := by
  obtain ⟨t1, t20, th⟩ := RC_tm hrc
  intro k
  induction k with
  | zero =>
    intro j n M s nn hj hn hnn hV fr ho h41 hbad hgood
    obtain ⟨m, rfl⟩ : ∃ m, n = m + 1 := ⟨n - 1, by omega⟩
    rw [qZ9_runs]
    unfold pZ9_runs_19
    rw [iZ_le (by omega) (by omega) (by omega) (by omega)]
    refine ⟨fun _ M1 h1 => ?_, fun z => absurd (by omega) z⟩
    obtain ⟨a1, a2, a3⟩ := wi_k h1
    exact hgood s rfl M1 (fr.tr (Fro.wi (by omega) h1)) ⟨ho.1.kp (a1 _ (by omega)), ho.2.1.keep (a2 _ (by omega)) (a1 _ (by omega)), by rw [a2 _ (by omega)]; exact ho.2.2.1, by rw [a2 _ (by omega)]; exact ho.2.2.2⟩ a3
  | succ k ih =>
    intro j n M s nn hj hn hnn hV fr ho h41 hbad hgood
    obtain ⟨m, rfl⟩ : ∃ m, n = m + 1 := ⟨n - 1, by omega⟩
    rw [qZ9_runs]
    unfold pZ9_runs_19
    rw [iZ_le (by omega) (by omega) (by omega) (by omega), iZ_s1]
    refine ⟨fun z => absurd z (by omega), fun _ => ?_⟩
    have hV0 := hV
    obtain ⟨v1, v2, v3, v4, v5, v6, v7, v8⟩ := hV0
    have hm2 : Vm s.1 := by unfold Vm; rw [v3 201 (by omega)]; exact hm
    rw [rnO] at hbad hgood
    refine ga_ok (lv := true) (r := s.1) (dn := s.2.2.1) (lt := s.2.2.2) (cd := cd) (vl := vl) (T := T) (p := p) (l := l) (y := y) (by omega) hK v1 v2 v4 (by omega) v6 v7 (hO.vo hV) ho.1 ho.2.2.1 ho.2.2.2 h41 hp hl hrc (fun M2 g2 _ _ => ?_)
    obtain ⟨f2, e43, e42, e22, hlv⟩ := g2
    obtain ⟨e45, es1, es2⟩ := hlv rfl
    have o2 := ho.ga f2
    have h41b : g_mi M2 b 41 = iZ ((2400 + p : Nat) : Int) := by rw [f2 _ _ (by omega)]; exact h41
    have fr2 := fr.tr f2.ro
    rw [e45, iB_0, decide_eq_false_iff_not]
    refine ⟨fun z => ?_, fun z => ?_⟩
    · have z1 := Classical.not_not.mp z
      cases hs : y.2.2.2.1 (eO s.1 s.2.2.1 s.2.2.2) with
      | none =>
        have hon : onO law y.2.2 s = none := by unfold onO; rw [if_pos z1, hs]
        rw [hon] at hbad
        rw [es2 hs]
        exact ⟨fun _ => hbad rfl M2 s.1 fr2 o2.1 v3, fun q => absurd rfl q⟩
      | some v =>
        obtain ⟨g1, g3, g4, g5⟩ := es1 v hs
        rw [g1]
        refine ⟨fun q => absurd q (by decide), fun _ => ?_⟩
        have ab := acA_b (cs := law) (kind := hkO y.2.2.1) (x := v) v1
        refine ob_9 (law := law) (H := lst (H ++ s.2.1)) (lt := s.2.2.2) hN hK v1 hm2 o2.1 (hF.cg (fun i h1 _ => v3 i (by omega))) o2.2.1 e43 th g3 g4 g5 o2.2.2.2 (fun M3 f3 R3 H3 e28 => ?_)
        have c1 : (0 ≤ iZ (acA law s.1 (hkO y.2.2.1) v).1) = (0 ≤ (acA law s.1 (hkO y.2.2.1) v).1) := by rw [iZ_l0, iZ_le (by omega) (by omega) (by omega) (by omega)]
        rw [c1]
        refine ⟨fun q M4 h4 => ?_, fun q => ?_⟩
        · have hon : onO law y.2.2 s = some ((acA law s.1 (hkO y.2.2.1) v).2, s.2.1 ++ [(s.1, (hkO y.2.2.1 : Int))], s.2.2.1 + 1, if hkO y.2.2.1 = 4 then (acA law s.1 (hkO y.2.2.1) v).1 else s.2.2.2) := by
            unfold onO; rw [if_pos z1, hs]; dsimp only; rw [if_pos q]
          rw [hon] at hbad hgood
          have hV2 := hV.on hc hon
          rw [f3 b 27 (by omega) (by omega) (by omega) (by omega) (by omega), o2.2.2.1, iZ_i1] at h4
          obtain ⟨a1, a2, a3⟩ := wi_k h4
          unfold ansH at H3
          rw [if_pos q, psh_lst, List.append_assoc] at H3
          refine ih (j + 1) m M4 _ (nn + 1) (by omega) (by omega) (by omega) hV2 ((fr2.tr f3.ro).tr (Fro.wi (by omega) h4)) ⟨R3.kp (a1 _ (by omega)), H3.keep (a2 _ (by omega)) (a1 _ (by omega)), a3, ?_⟩ ?_ hbad hgood
          · rw [a2 _ (by omega), e28]
            dsimp only
            by_cases k4 : hkO y.2.2.1 = 4
            · rw [if_pos ⟨k4, q⟩, if_pos k4]
            · rw [if_neg (fun w => k4 w.1), if_neg k4]
          · rw [a2 _ (by omega), f3 _ _ (by omega) (by omega) (by omega) (by omega) (by omega)]; exact h41b
        · have hon : onO law y.2.2 s = none := by unfold onO; rw [if_pos z1, hs]; dsimp only; rw [if_neg q]
          rw [hon] at hbad
          exact hbad rfl M3 _ (fr2.tr f3.ro) R3 (fun i hi => (acA_hi v1 hi).trans (v3 i hi))
    · have hon : onO law y.2.2 s = some s := by unfold onO; rw [if_neg z]
      rw [hon] at hbad hgood
      exact ih (j + 1) m M2 s nn (by omega) (by omega) (by omega) hV fr2 o2 h41b hbad hgood
theorem rn_9 (hN : 4000 ≤ N) (hK : 500 ≤ K) (hm : bd9 (r0 201)) (hF : FL r0 law) (hO : OT r0 cd vl T) (hp : p ≤ T) (hl : l ≤ 50) (hrc : RC cd vl true p l = .inr y) (hc : Clb true y.2.2) {M : gM} {s : OSt} {nn : Int} (hnn : nn + 20 ≤ 1000) (hV : VO r0 nn s) (ho : RO9 M b H s) (h41 : g_mi M b 41 = iZ ((2400 + p : Nat) : Int)) (hbad : rnO law y.2.2 y.2.2.2.2.1.toNat s = none → ∀ M1 r2, Fro b M M1 → Rr M1 b r2 → (∀ i, 188 ≤ i → r2 i = r0 i) → R 0 M1) (hgood : ∀ s2, rnO law y.2.2 y.2.2.2.2.1.toNat s = some s2 → ∀ M1, Fro b M M1 → RO9 M1 b H s2 → y.1 ≤ T → y.2.1 ≤ 50 → g_mi M1 b 41 = iZ ((2400 + (y.1 + 1) : Nat) : Int) → R 1 M1) : pZ9_runs N K M b (iZ ((2400 + T : Nat) : Int)) R := by
  obtain ⟨t1, t20, th⟩ := RC_tm hrc
  obtain ⟨v1, v2, v3, v4, v5, v6, v7, v8⟩ := id hV
  unfold pZ9_runs pZ9_runs_0
  show pZ9_goesAlong N K M b (iZ ((2400 + T : Nat) : Int)) (iB false) _
  refine ga_ok (lv := false) (r := s.1) (dn := s.2.2.1) (lt := s.2.2.2) (cd := cd) (vl := vl) (T := T) (p := p) (l := l) (y := y) (by omega) hK v1 v2 v4 (by omega) v6 v7 (hO.vo hV) ho.1 ho.2.2.1 ho.2.2.2 h41 hp hl hrc (fun M2 g2 y1 y2 => ?_)
  obtain ⟨f2, e43, e42, e22, _⟩ := g2
  rw [e42, e22]
  show qZ9_runs N K R N 0 M2 b (iZ ((2400 + T : Nat) : Int)) (iZ y.2.2.2.2.1) (iZ ((2400 + (y.1 + 1) : Nat) : Int)) (iZ ((0 : Nat) : Int))
  exact rn_loop (M0 := M) hN hK hm hF hO hp hl hrc hc y.2.2.2.2.1.toNat 0 N M2 s nn (by omega) (by omega) (by omega) hV f2.ro (ho.ga f2) (by rw [f2 _ _ (by omega)]; exact h41) hbad (fun s2 e M1 f1 o1 e1 => hgood s2 e M1 f1 o1 y1 y2 e1)
end RN9
