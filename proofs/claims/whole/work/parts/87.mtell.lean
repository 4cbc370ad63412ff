/-! Laws: what a text tells of a rank (1) or a bar (2). The reference. -/
def clp (v : Int) : Int := if v < 0 then 0 else if v ≤ 99 then v else 99
def svC (c : Int) (s : Option Int) : Option Int := if c = 2 then some 1 else s
def tlC (x : Int) (e : En) (r : Int) (c : Nat × Cl) : Int := if c.2.1 = x ∧ c.2.2.2.2 e = some 1 then (match svC c.2.1 (c.2.2.1 e) with
  | some v => clp v
  | none => r) else r
def tlL (x : Int) (e : En) (cs : List (Nat × Cl)) (r : Int) : Int := cs.foldl (tlC x e) r
theorem clp_b (v : Int) : 0 ≤ clp v ∧ clp v ≤ 99 := by unfold clp; split; omega; split <;> omega
theorem tlC_b {x : Int} {e : En} {r : Int} {c : Nat × Cl} (h1 : 0 ≤ r) (h2 : r ≤ 99) : 0 ≤ tlC x e r c ∧ tlC x e r c ≤ 99 := by
  unfold tlC
  split
  · split
    · exact clp_b _
    · exact ⟨h1, h2⟩
  · exact ⟨h1, h2⟩
theorem tlL_b {x : Int} {e : En} : ∀ {cs : List (Nat × Cl)} {r : Int}, 0 ≤ r → r ≤ 99 → 0 ≤ tlL x e cs r ∧ tlL x e cs r ≤ 99 := by
  intro cs
  induction cs with
  | nil => intro r h1 h2; exact ⟨h1, h2⟩
  | cons c cs ih =>
    intro r h1 h2
    have := tlC_b (x := x) (e := e) (c := c) h1 h2
    exact ih this.1 this.2
/-- a clause's sum as the reference has it -/
def Sok (s : Option Int) (y : Int64) (br : Bool) : Prop := (∀ v, s = some v → y = iL v ∧ -1000000000 ≤ v ∧ v ≤ 1000000000 ∧ br = false) ∧ (s = none → br = true)
/-- what is known of a clause -/
theorem cTest_R {cd vl : Nat → Int} {o : Bool} {p l : Nat} {hd : Int} {S : Dn} {tm : Int} {y : Nat × Nat × Cl} (h : cTest cd vl o p l hd S tm = .inr y) : (cd p = 3 ∧ ∃ D, PP cd vl o 480 0 0 (p + 1) l (kD 0) false = some (.inr (y.1, y.2.1, D)) ∧ y.2.2 = (hd, S, tm, D)) ∨ (cd p ≠ 3 ∧ y = (p, l, hd, S, tm, kD 1)) := by
  unfold cTest at h
  split at h
  · rename_i c
    left
    refine ⟨c, ?_⟩
    cases hp : PP cd vl o 480 0 0 (p + 1) l (kD 0) false with
    | none => rw [hp] at h; cases h
    | some z =>
      cases z with
      | inl e => rw [hp] at h; cases h
      | inr z =>
        rw [hp] at h
        cases h
        exact ⟨z.2.2, rfl, rfl⟩
  · rename_i c
    right
    cases h
    exact ⟨c, rfl⟩
theorem RC_R {cd vl : Nat → Int} {p l : Nat} {y : Nat × Nat × Cl} (h : RC cd vl false p l = .inr y) : (cd p = 1 ∧ ∃ p2 l2 S, PP cd vl false 480 6 0 (p + 1) l (kD 0) false = some (.inr (p2, l2, S)) ∧ cTest cd vl false p2 l2 1 S 1 = .inr y) ∨ (cd p = 2 ∧ cTest cd vl false (p + 1) l 2 (kD 0) 1 = .inr y) := by
  unfold RC at h
  split at h
  · rename_i c
    have c1 : cd p = 1 := by
      rcases c with c | c
      · exact c.2
      · exact absurd c.1 (by decide)
    left
    refine ⟨c1, ?_⟩
    unfold cSum at h
    cases hp : PP cd vl false 480 6 0 (p + 1) l (kD 0) false with
    | none => rw [hp] at h; cases h
    | some z =>
      cases z with
      | inl e => rw [hp] at h; cases h
      | inr z =>
        rw [hp] at h
        dsimp only at h
        unfold cTimes at h
        rw [if_neg (fun q => absurd q.1 (by decide)), c1] at h
        exact ⟨z.1, z.2.1, z.2.2, rfl, h⟩
  · split at h
    · rename_i c
      have c1 : cd p = 2 := by
        rcases c with c | c
        · exact c.2
        · exact absurd c.1 (by decide)
      right
      unfold cTimes at h
      rw [if_neg (fun q => absurd q.1 (by decide)), c1] at h
      exact ⟨c1, h⟩
    · cases h
section TL
variable {N K b base T : Nat} {cd vl : Nat → Int} {e : En} {M0 : gM} {R : Int32 → gM → Prop} {x : Int}
theorem t144 {kp : Nat → gM → Nat → Int32 → Int64 → Prop} {M : gM} {c r0 : Int} {y6 : Int64} {br1 br2 : Bool} {g : Nat} {s : Option Int} (hc : c = 1 ∨ c = 2) (hx : x = 1 ∨ x = 2) (hg : Gt M b g br2) (hs : Sok s y6 br1) (hno : (c ≠ x ∨ br2 = true ∨ s = none) → pX9_tells_203 N K kp R M b (iZ x) (iL r0)) (hyes : ∀ v, c = x → br2 = false → s = some v → pX9_tells_203 N K kp R M b (iZ x) (iL (clp v))) : pX9_tells_144 N K kp R M b (iZ x) (iL r0) (iZ c) y6 (iB br1) := by
  unfold pX9_tells_144
  rw [iZ_eq (show -2147483648 ≤ c by omega) (by omega) (by omega) (by omega), hg.2]
  refine ⟨fun z => hno (Or.inl z), fun z => ⟨fun y => hno (Or.inr (Or.inl ?_)), fun y => ⟨fun w => hno (Or.inr (Or.inr ?_)), fun w => ?_⟩⟩⟩
  · cases br2 with
    | true => rfl
    | false => exact absurd rfl y
  · cases hs2 : s with
    | none => rfl
    | some v =>
      have := (hs.1 v hs2).2.2.2
      rw [this] at w; exact absurd rfl w
  · have b2 : br2 = false := by rw [iB_0] at y; exact y
    cases hs2 : s with
    | none =>
      have := hs.2 hs2
      rw [this] at w; exact absurd w (by decide)
    | some v =>
      obtain ⟨q1, q2, q3, q4⟩ := hs.1 v hs2
      have k := hyes v z b2 hs2
      rw [q1, show (0 : Int64) = iL 0 from rfl, show (99 : Int64) = iL 99 from rfl, (lg_lt q2 q3 (show -1000000000 ≤ (0 : Int) by decide) (by decide)).1, (lg_lt q2 q3 (show -1000000000 ≤ (99 : Int) by decide) (by decide)).2.1]
      unfold clp at k
      refine ⟨fun u => ⟨fun t => ?_, fun t => ?_⟩, fun u => ?_⟩
      · rw [if_neg (by omega), if_pos t] at k; exact k
      · rw [if_neg (by omega), if_neg t] at k; exact k
      · rw [if_pos (by omega)] at k; exact k
theorem codeAt_22 {M : gM} {p : Nat} (h : Eo N b base T cd vl false e M0) (f : Fe b M0 M) (hg : g_mi M b 22 = iZ ((base + p : Nat) : Int)) (hp : p ≤ T) : EX9_codeAt M b (g_mi M b 22) ∧ fX9_codeAt M b (g_mi M b 22) = iZ (cd p) := by
  obtain ⟨h1, h2, h3, h4, h5, h6, _⟩ := h
  unfold EX9_codeAt fX9_codeAt
  rw [hg, f _ _ (Or.inr (by decide)), h4]
  have cc : (iZ ((base + T : Nat) : Int) ≤ iZ ((base + p : Nat) : Int)) = (T ≤ p) := by
    rw [iZ_le (by omega) (by omega) (by omega) (by omega)]; exact propext ⟨fun _ => by omega, fun _ => by omega⟩
  rcases Nat.lt_or_ge p T with q | q
  · rw [if_neg (by rw [cc]; omega), show (212 : Int32) = iZ ((212 : Nat) : Int) from rfl, iZ_add]
    refine ⟨fun _ => iZ_in (by omega) (by omega) (by omega), ?_⟩
    rw [iZ_nat (by omega) (by omega), show (((212 : Nat) : Int) + ((base + p : Nat) : Int)).toNat = 212 + (base + p) by omega, f _ _ (Or.inl (by omega))]
    exact (h6 p q).1
  · have e1 : p = T := by omega
    rw [if_pos (by rw [cc]; omega), e1, h3]
    exact ⟨fun q => absurd (Int32.le_refl _) q, rfl⟩
theorem tl_loop (ho : Eo N b base T cd vl false e M0) (hx : x = 1 ∨ x = 2) (hK : 500 ≤ K) : ∀ (r p l n : Nat) (M : gM) (r0 : Int) (cs : List (Nat × Cl)), RA cd vl false T r p l = .inr cs → p ≤ T → l ≤ 50 → r + 1 ≤ n → Fe b M0 M → g_mi M b 22 = iZ ((base + p : Nat) : Int) → 0 ≤ r0 → r0 ≤ 99 → (∀ M1, Fe b M0 M1 → R (iZ (tlL x e cs r0)) M1) → qX9_tells N K R n 0 M b (iZ x) (iL r0) := by
  have hT := ho.1
  have hb := ho.2.1
  have h0 := ho.2.2.1
  intro r
  induction r with
  | zero => intro p l n M r0 cs hh; cases hh
  | succ r ih =>
    intro p l n M r0 cs hh hp hl hn hf hg hr0 hr1 hR
    obtain ⟨m, rfl⟩ : ∃ m, n = m + 1 := ⟨n - 1, by omega⟩
    rw [RA] at hh
    cases hrc : RC cd vl false p l with
    | inl q => rw [hrc] at hh; cases hh
    | inr y =>
      rw [hrc] at hh
      dsimp only at hh
      have tb := tlC_b (x := x) (e := e) (c := (p, y.2.2)) hr0 hr1
      -- behind a clause
      have cont : ∀ (M1 : gM) (br1 : Bool), Fe b M0 M1 → y.1 ≤ T → y.2.1 ≤ 50 → Gt M1 b (base + y.1) br1 → pX9_tells_203 N K (qX9_tells N K R m) R M1 b (iZ x) (iL (tlC x e r0 (p, y.2.2))) := fun M1 br1 f1 y1 y2 g1 => by
        unfold pX9_tells_203
        intro M2 h2
        obtain ⟨g2, f2⟩ := g1.go h2
        split at hh
        · rename_i c
          cases hra : RA cd vl false T r (y.1 + 1) y.2.1 with
          | inl q => rw [hra] at hh; cases hh
          | inr cs2 =>
            rw [hra] at hh
            cases hh
            refine ih (y.1 + 1) y.2.1 m M2 _ cs2 hra (tk_lt h0 y1 (by omega)) y2 (by omega) (f1.tr f2) ?_ tb.1 tb.2 (fun M3 f3 => hR M3 f3)
            rw [← Nat.add_assoc]; exact g2.1
        · split at hh
          · cases hh
          · cases hh
            obtain ⟨m2, rfl⟩ : ∃ m2, m = m2 + 1 := ⟨m - 1, by omega⟩
            rw [qX9_tells]
            unfold pX9_tells_64
            have f3 := f1.tr f2
            rw [g2.1, f3 b 23 (Or.inr (by decide)), ho.2.2.2.1, iZ_L (by omega) (by omega)]
            refine ⟨fun _ => hR M2 f3, fun z => absurd ?_ z⟩
            rw [iZ_le (by omega) (by omega) (by omega) (by omega)]; omega
      have pT : cd p ≠ 0 → p < T := fun z => tk_lt h0 hp z
      rw [qX9_tells]
      unfold pX9_tells_64
      obtain ⟨ce, cf⟩ := codeAt_22 ho hf hg hp
      -- the test
      have tst : ∀ (c : Int) (S : Dn) (p2 l2 : Nat) (y6 : Int64) (br1 : Bool) (M3 M4 : gM), (c = 1 ∨ c = 2) → cTest cd vl false p2 l2 c S 1 = .inr y → p2 ≤ T → l2 ≤ 50 → Sok (svC c (S e)) y6 br1 → Fe b M0 M4 → Gt M4 b (base + p2) false → pX9_passes0 N K M4 b 3 (fun v3 M5 => ((v3 = 0 → pX9_tells_144 N K (qX9_tells N K R m) R M5 b (iZ x) (iL r0) (iZ c) y6 (iB br1)) ∧ (¬ v3 = 0 → pX9_testOf N K M5 b 1 (fun v4 M6 => ((v4 = 0 → ((¬ iZ c = iZ x → pX9_tells_203 N K (qX9_tells N K R m) R M6 b (iZ x) (iL r0)) ∧ (iZ c = iZ x → pX9_tells_203 N K (qX9_tells N K R m) R M6 b (iZ x) (iL r0)))) ∧ (¬ v4 = 0 → pX9_tells_144 N K (qX9_tells N K R m) R M6 b (iZ x) (iL r0) (iZ c) y6 (iB br1))))))) := fun c S p2 l2 y6 br1 M3 M4 hc hct hp2 hl2 hs f4 g4 => by
        rcases cTest_R hct with ⟨c3, D, hD, hy⟩ | ⟨c3, hy⟩
        · refine passes_ok (c := 3) ho f4 g4 hp2 (by omega) (by omega) (fun _ M5 f5 g5 => ⟨fun z => absurd z one0, fun _ => ?_⟩) (fun z => absurd c3 z)
          have p3 := tk_lt h0 hp2 (by omega)
          have hx2 := PP_in h0 _ _ _ _ _ _ _ _ (by decide) hD p3 hl2
          unfold PPok at hx2
          dsimp only at hx2
          refine EV_all ho 480 0 0 (p2 + 1) l2 (kD 0) false y.1 y.2.1 D (by decide) (fun z => absurd z (by decide)) hD K M5 _ true false 0 0 (by omega) (f4.tr f5) g5 p3 hl2 ⟨fun z => absurd z (by decide), fun z => absurd z (by decide), fun z => absurd z (by decide)⟩ (fun M6 v4 w br2 f6 g6 P6 => ?_)
          unfold Pq at P6
          rw [if_pos (by decide)] at P6
          obtain ⟨v01, E6, _⟩ := P6
          obtain ⟨E6a, E6b⟩ := E6 rfl rfl
          have f06 := (f4.tr f5).tr f6
          have no : D e ≠ some 1 → tlC x e r0 (p, y.2.2) = r0 := fun z => by
            unfold tlC; rw [if_neg]; intro z2; apply z; rw [hy] at z2; exact z2.2
          refine ⟨fun z => ?_, fun z => ?_⟩
          · have nd : D e ≠ some 1 := fun w1 => by
              have := (E6a 1 w1).1.1
              rw [this] at z; exact absurd z (by decide)
            have k := cont M6 br2 f06 hx2.2.1 hx2.2.2.2 g6
            rw [no nd] at k
            exact ⟨fun _ => k, fun _ => k⟩
          · refine t144 hc hx g6 hs (fun w1 => ?_) (fun v w1 w2 w3 => ?_)
            · have k := cont M6 br2 f06 hx2.2.1 hx2.2.2.2 g6
              have : tlC x e r0 (p, y.2.2) = r0 := by
                rcases w1 with w1 | w1 | w1
                · unfold tlC; rw [if_neg]; intro z2; apply w1; rw [hy] at z2; exact z2.1
                · refine no (fun z2 => ?_)
                  have := (E6a 1 z2).2
                  rw [this] at w1; cases w1
                · unfold tlC
                  split
                  · rw [hy]; dsimp only; rw [w1]
                  · rfl
              rw [this] at k; exact k
            · have k := cont M6 br2 f06 hx2.2.1 hx2.2.2.2 g6
              have de : D e = some 1 := by
                cases hde : D e with
                | none => have := E6b hde; rw [this] at w2; cases w2
                | some u =>
                  obtain ⟨⟨u1, u2⟩, _⟩ := E6a u hde
                  rcases u2 with u2 | u2
                  · rw [u1, u2] at z; exact absurd rfl z
                  · rw [u2]
              have : tlC x e r0 (p, y.2.2) = clp v := by
                unfold tlC; rw [hy]; dsimp only; rw [if_pos ⟨w1, de⟩, w3]
              rw [this] at k; exact k
        · refine passes_ok (c := 3) ho f4 g4 hp2 (by omega) (by omega) (fun z => absurd z c3) (fun _ => ⟨fun _ => ?_, fun z => absurd rfl z⟩)
          have k := cont M4 false f4 (by rw [hy]; exact hp2) (by rw [hy]; exact hl2) (by rw [hy]; exact g4)
          refine t144 hc hx g4 hs (fun w1 => ?_) (fun v w1 w2 w3 => ?_)
          · have : tlC x e r0 (p, y.2.2) = r0 := by
              rcases w1 with w1 | w1 | w1
              · unfold tlC; rw [if_neg]; intro z2; apply w1; rw [hy] at z2; exact z2.1
              · cases w1
              · unfold tlC
                split
                · rw [hy]; dsimp only; rw [w1]
                · rfl
            rw [this] at k; exact k
          · have : tlC x e r0 (p, y.2.2) = clp v := by
              unfold tlC; rw [hy]; dsimp only; rw [if_pos ⟨w1, rfl⟩, w3]
            rw [this] at k; exact k
      have c12 : cd p = 1 ∨ cd p = 2 := by
        rcases RC_R hrc with h | h
        · exact Or.inl h.1
        · exact Or.inr h.1
      have hpT := pT (by omega)
      refine ⟨fun z => ?_, fun _ => ⟨ce, fun v1 hv1 M1 h1 M2 h2 => ?_⟩⟩
      · exfalso
        rw [hg, hf b 23 (Or.inr (by decide)), ho.2.2.2.1, iZ_le (by omega) (by omega) (by omega) (by omega)] at z; omega
      · rw [cf] at hv1
        subst hv1
        have g1 : Gt M1 b (base + p) false := ⟨by rw [h1, mi_wi, if_neg (by omega)]; exact hg, by rw [h1, mi_wi, if_pos ⟨rfl, rfl⟩]; rfl⟩
        have f1 : Fe b M M1 := by rw [h1]; exact Fe.wi (Or.inr rfl)
        obtain ⟨g2, f2⟩ := g1.go h2
        rw [Nat.add_assoc] at g2
        have f02 := (hf.tr f1).tr f2
        rcases RC_R hrc with ⟨c1, p2, l2, S, hS, hct⟩ | ⟨c1, hct⟩
        · rw [c1]
          refine ⟨fun _ => ?_, fun z => absurd z (by decide)⟩
          have hx2 := PP_in h0 _ _ _ _ _ _ _ _ (by decide) hS hpT hl
          unfold PPok at hx2
          dsimp only at hx2
          refine EV_all ho 480 6 0 (p + 1) l (kD 0) false p2 l2 S (by decide) (fun z => absurd z (by decide)) hS K M2 _ true false 0 0 (by omega) f02 g2 hpT hl ⟨fun z => absurd z (by decide), fun z => absurd z (by decide), fun z => absurd z (by decide)⟩ (fun M3 v3 w br2 f3 g3 P3 => ?_)
          unfold Pq at P3
          rw [if_neg (by decide)] at P3
          obtain ⟨E3, _⟩ := P3
          obtain ⟨E3a, E3b⟩ := E3 rfl rfl
          intro M4 h4
          obtain ⟨g4, f4⟩ := g3.br (br2 := false) h4
          rw [g3.2]
          refine tst 1 S p2 l2 w br2 M3 M4 (Or.inl rfl) hct hx2.2.1 hx2.2.2.2 ⟨fun v hv => ?_, fun hv => ?_⟩ ((f02.tr f3).tr f4) g4
          · obtain ⟨⟨u1, u2, u3⟩, u4⟩ := E3a v hv
            exact ⟨u1, u2, u3, u4⟩
          · exact E3b hv
        · rw [c1]
          refine ⟨fun z => absurd rfl z, fun _ M7 h7 => ?_⟩
          obtain ⟨g7, f7⟩ := g2.br (br2 := false) h7
          rw [g2.2]
          refine tst 2 (kD 0) (p + 1) l 1 false M2 M7 (Or.inr rfl) hct hpT hl ⟨fun v hv => ?_, fun hv => (by cases hv)⟩ (f02.tr f7) g7
          cases hv
          exact ⟨rfl, by decide, by decide, rfl⟩
end TL
