/-! The reference's evaluator: tests, parts; all nodes. -/
theorem lg_lt {x y : Int} (x1 : -1000000000 ≤ x) (x2 : x ≤ 1000000000) (y1 : -1000000000 ≤ y) (y2 : y ≤ 1000000000) : (0 ≤ lg_cmp (iL x) (iL y)) = (y ≤ x) ∧ (lg_cmp (iL x) (iL y) ≤ 0) = (x ≤ y) ∧ (lg_cmp (iL x) (iL y) = 0) = (x = y) := by
  refine ⟨?_, ?_, ?_⟩
  · rw [propext (lg_cmp_ge _ _), iL_le (by omega) (by omega) (by omega) (by omega)]
  · rw [propext (lg_cmp_le _ _), iL_le (by omega) (by omega) (by omega) (by omega)]
  · rw [propext (lg_cmp_eq _ _), iL_eq (by omega) (by omega) (by omega) (by omega)]
theorem Vt1.o {v : Int32} {x : Int} (h : Vt1 v x) : (v = 0 ↔ x = 0) ∧ (v = 0 ∨ v = 1) := by
  rcases h.2 with e | e <;> subst e <;> rw [h.1] <;> decide
section ME3
variable {N b base T : Nat} {cd vl : Nat → Int} {o : Bool} {e : En} {M0 : gM} {F : Nat}
/-- behind the second piece of a test: the loop again -/
theorem EV_tl (ih : EVs N b base T cd vl o e M0 F) {h2 d p2 l2 : Nat} {ac : Dn} {p1 l1 : Nat} {D : Dn} (u : h2 = 1 ∨ h2 = 3) (q2 : PP cd vl o F h2 d p2 l2 ac false = some (.inr (p1, l1, D))) {n : Nat} {M3 : gM} {R : Int32 → Int64 → gM → Prop} {lv br br3 : Bool} {x3 : Int32} (hn : F + 4 ≤ n) (hf : Fe b M0 M3) (hg : Gt M3 b (base + p2) br3) (hp : p2 ≤ T) (hl : l2 ≤ 50) (h01 : x3 = 0 ∨ x3 = 1) (P3 : Ep lv br (ac e) (Vt1 x3) br3) (hR : ∀ M1 v w br2, Fe b M3 M1 → Gt M1 b (base + p1) br2 → (v = 0 ∨ v = 1) ∧ Ep lv br (D e) (Vt1 v) br2 → R v w M1) : qgME N n h2 M3 b (iB lv) x3 0 R := by
  have e2 : enn h2 = h2 := by rcases u with u | u <;> rw [u] <;> rfl
  have k := ih h2 d p2 l2 ac false p1 l1 D (by omega) (by omega) q2 n M3 R lv br3 x3 0 hn hf hg hp hl ⟨fun _ => ⟨h01, fun l b1 => (P3.val l b1).2⟩, fun q => absurd q (by omega), fun q => absurd q (by omega)⟩
  rw [e2] at k
  refine k (fun M4 v4 w4 br4 f4 g4 P4 => hR M4 v4 w4 br4 f4 g4 ?_)
  unfold Pq at P4
  rw [if_pos (by omega)] at P4
  exact ⟨P4.1, P3.comb P4.2 (fun hv => PP_str _ _ _ _ _ _ _ _ _ (by omega) q2 hv)⟩
/-- the loops of tests: 1 (or), 3 (and) -/
theorem EV_1 (ho : Eo N b base T cd vl o e M0) (ih : EVs N b base T cd vl o e M0 F) {d p l : Nat} {a : Dn} {q : Bool} {p1 l1 : Nat} {D : Dn} (hh : PP cd vl o (F + 1) 1 d p l a q = some (.inr (p1, l1, D))) {n : Nat} {M : gM} {R : Int32 → Int64 → gM → Prop} {lv br : Bool} {x2 : Int32} (hn : F + 4 ≤ n) (hf : Fe b M0 M) (hg : Gt M b (base + p) br) (hp : p ≤ T) (hl : l ≤ 50) (h01 : x2 = 0 ∨ x2 = 1) (ha : lv = true → br = false → ∃ x, a e = some x ∧ Vt1 x2 x) (hR : ∀ M1 v w br2, Fe b M M1 → Gt M1 b (base + p1) br2 → (v = 0 ∨ v = 1) ∧ Ep lv br (D e) (Vt1 v) br2 → R v w M1) : pX9_testOf_6 N (qgME N n) R M b (iB lv) x2 := by
  rw [PP1] at hh
  unfold pX9_testOf_6
  refine passes_ok (c := 4) ho hf hg hp (by omega) (by omega) (fun c M1 f1 g1 => ⟨fun q => absurd q one0, fun _ => ?_⟩) (fun c => ⟨fun _ => ⟨h01, ?_⟩, fun q => absurd rfl q⟩)
  · rw [if_pos c] at hh
    have pp := tk_lt ho.2.2.1 hp (by omega)
    rcases thn_inv hh with ⟨x, q1, q2⟩ | ⟨p2, l2, v, q1, q2⟩
    · cases q2
    have hx := PP_in ho.2.2.1 _ _ _ _ _ _ _ _ (by decide) q1 pp hl
    have loop : ∀ M2 x3 br3, Fe b M1 M2 → Gt M2 b (base + p2) br3 → (x3 = 0 ∨ x3 = 1) → Ep lv br (orD a v e) (Vt1 x3) br3 → qgME N n 1 M2 b (iB lv) x3 0 R := fun M2 x3 br3 f2 g2 h3 P3 => EV_tl ih (Or.inl rfl) q2 hn ((hf.tr f1).tr f2) g2 hx.2.1 hx.2.2.2 h3 P3 (fun M4 v4 w4 br4 f4 g4 P4 => hR M4 v4 w4 br4 ((f1.tr f2).tr f4) g4 P4)
    have piece : ∀ (lv2 : Bool) (K : Int32 → Int64 → gM → Prop), (∀ M2 v2 w2 br2, Fe b M1 M2 → Gt M2 b (base + p2) br2 → (v2 = 0 ∨ v2 = 1) ∧ Ep lv2 br (v e) (Vt1 v2) br2 → K v2 w2 M2) → qgME N n 2 M1 b (iB lv2) 0 0 K := fun lv2 K hK => by
      refine ih 2 d (p + 1) l a false p2 l2 v (by decide) (by decide) q1 n M1 K lv2 br 0 0 hn (hf.tr f1) g1 pp hl ⟨fun q => absurd q (by decide), fun q => absurd q (by decide), fun q => absurd q (by decide)⟩ (fun M2 v2 w2 br2 f2 g2 P2 => hK M2 v2 w2 br2 f2 g2 ?_)
      unfold Pq at P2
      rw [if_pos (by decide)] at P2
      exact P2
    refine ⟨fun c1 => ?_, fun c1 => ⟨fun c2 => ?_, fun c2 => ?_⟩⟩
    · rw [iB_0] at c1
      subst c1
      refine piece false _ (fun M2 v2 w2 br2 f2 g2 P2 => ?_)
      have b2 := P2.2.2 (Or.inl rfl)
      subst b2
      exact ⟨fun _ => loop M2 1 _ f2 g2 (Or.inr rfl) (Ep.dead (Or.inl rfl)), fun _ => ⟨fun _ => loop M2 0 _ f2 g2 (Or.inl rfl) (Ep.dead (Or.inl rfl)), fun _ => loop M2 1 _ f2 g2 (Or.inr rfl) (Ep.dead (Or.inl rfl))⟩⟩
    · have l1 : lv = true := by rw [iB_0] at c1; cases lv with | true => rfl | false => exact absurd rfl c1
      subst l1
      refine piece false _ (fun M2 v2 w2 br2 f2 g2 P2 => loop M2 1 br2 f2 g2 (Or.inr rfl) ?_)
      have b2 := P2.2.2 (Or.inl rfl)
      rw [b2]
      clear b2 P2 g2
      cases br with
      | true => exact Ep.dead (Or.inr rfl)
      | false =>
        obtain ⟨x, hx1, vx⟩ := ha rfl rfl
        have x1 : x = 1 := by rcases vx.2 with w | w; exact absurd (vx.o.1.mpr w) c2; exact w
        have e4 : orD a v e = some 1 := by unfold orD; rw [hx1, x1]; rfl
        rw [e4]; exact Ep_some ⟨rfl, Or.inr rfl⟩
    · have l1 : lv = true := by rw [iB_0] at c1; cases lv with | true => rfl | false => exact absurd rfl c1
      subst l1
      refine piece true _ (fun M2 v2 w2 br2 f2 g2 P2 => ?_)
      have P3 : Ep true br (orD a v e) (Vt1 v2) br2 := by
        refine ⟨fun l b0 => ?_, P2.2.2⟩
        obtain ⟨x, hx1, vx⟩ := ha rfl b0
        have x0 : x = 0 := vx.o.1.mp c2
        have e4 : orD a v e = v e := by unfold orD; rw [hx1, x0]; rfl
        rw [e4]; exact P2.2.1 rfl b0
      exact ⟨fun w => loop M2 0 br2 f2 g2 (Or.inl rfl) (by rw [w] at P3; exact P3), fun w => loop M2 1 br2 f2 g2 (Or.inr rfl) (by have w1 : v2 = 1 := by { rcases P2.1 with z | z; exact absurd z w; exact z }; rw [w1] at P3; exact P3)⟩
  · rw [if_neg c] at hh
    cases hh
    refine hR M x2 0 br Fe.rf hg ⟨h01, ⟨fun l b => ?_, fun _ => rfl⟩⟩
    obtain ⟨x, hx, vx⟩ := ha l b
    rw [hx]
    exact ⟨fun y hy => (by cases hy; exact ⟨vx, b⟩), fun q => (by cases q)⟩
theorem EV_3 (ho : Eo N b base T cd vl o e M0) (ih : EVs N b base T cd vl o e M0 F) {d p l : Nat} {a : Dn} {q : Bool} {p1 l1 : Nat} {D : Dn} (hh : PP cd vl o (F + 1) 3 d p l a q = some (.inr (p1, l1, D))) {n : Nat} {M : gM} {R : Int32 → Int64 → gM → Prop} {lv br : Bool} {x2 : Int32} (hn : F + 4 ≤ n) (hf : Fe b M0 M) (hg : Gt M b (base + p) br) (hp : p ≤ T) (hl : l ≤ 50) (h01 : x2 = 0 ∨ x2 = 1) (ha : lv = true → br = false → ∃ x, a e = some x ∧ Vt1 x2 x) (hR : ∀ M1 v w br2, Fe b M M1 → Gt M1 b (base + p1) br2 → (v = 0 ∨ v = 1) ∧ Ep lv br (D e) (Vt1 v) br2 → R v w M1) : pX9_bothOf_6 N (qgME N n) R M b (iB lv) x2 := by
  rw [PP3] at hh
  unfold pX9_bothOf_6
  refine passes_ok (c := 5) ho hf hg hp (by omega) (by omega) (fun c M1 f1 g1 => ⟨fun q => absurd q one0, fun _ => ?_⟩) (fun c => ⟨fun _ => ⟨h01, ?_⟩, fun q => absurd rfl q⟩)
  · rw [if_pos c] at hh
    have pp := tk_lt ho.2.2.1 hp (by omega)
    rcases thn_inv hh with ⟨x, q1, q2⟩ | ⟨p2, l2, v, q1, q2⟩
    · cases q2
    have hx := PP_in ho.2.2.1 _ _ _ _ _ _ _ _ (by decide) q1 pp hl
    have loop : ∀ M2 x3 br3, Fe b M1 M2 → Gt M2 b (base + p2) br3 → (x3 = 0 ∨ x3 = 1) → Ep lv br (andD a v e) (Vt1 x3) br3 → qgME N n 3 M2 b (iB lv) x3 0 R := fun M2 x3 br3 f2 g2 h3 P3 => EV_tl ih (Or.inr rfl) q2 hn ((hf.tr f1).tr f2) g2 hx.2.1 hx.2.2.2 h3 P3 (fun M4 v4 w4 br4 f4 g4 P4 => hR M4 v4 w4 br4 ((f1.tr f2).tr f4) g4 P4)
    have piece : ∀ (lv2 : Bool) (K : Int32 → Int64 → gM → Prop), (∀ M2 v2 w2 br2, Fe b M1 M2 → Gt M2 b (base + p2) br2 → (v2 = 0 ∨ v2 = 1) ∧ Ep lv2 br (v e) (Vt1 v2) br2 → K v2 w2 M2) → qgME N n 4 M1 b (iB lv2) 0 0 K := fun lv2 K hK => by
      refine ih 4 d (p + 1) l a false p2 l2 v (by decide) (by decide) q1 n M1 K lv2 br 0 0 hn (hf.tr f1) g1 pp hl ⟨fun q => absurd q (by decide), fun q => absurd q (by decide), fun q => absurd q (by decide)⟩ (fun M2 v2 w2 br2 f2 g2 P2 => hK M2 v2 w2 br2 f2 g2 ?_)
      unfold Pq at P2
      rw [if_pos (by decide)] at P2
      exact P2
    refine ⟨fun c1 => ?_, fun c1 => ⟨fun c2 => ?_, fun c2 => ?_⟩⟩
    · rw [iB_0] at c1
      subst c1
      refine piece false _ (fun M2 v2 w2 br2 f2 g2 P2 => ?_)
      have b2 := P2.2.2 (Or.inl rfl)
      subst b2
      exact ⟨fun _ => loop M2 0 _ f2 g2 (Or.inl rfl) (Ep.dead (Or.inl rfl)), fun _ => ⟨fun _ => loop M2 0 _ f2 g2 (Or.inl rfl) (Ep.dead (Or.inl rfl)), fun _ => loop M2 1 _ f2 g2 (Or.inr rfl) (Ep.dead (Or.inl rfl))⟩⟩
    · have l1 : lv = true := by rw [iB_0] at c1; cases lv with | true => rfl | false => exact absurd rfl c1
      subst l1
      refine piece false _ (fun M2 v2 w2 br2 f2 g2 P2 => loop M2 0 br2 f2 g2 (Or.inl rfl) ?_)
      have b2 := P2.2.2 (Or.inl rfl)
      rw [b2]
      clear b2 P2 g2
      cases br with
      | true => exact Ep.dead (Or.inr rfl)
      | false =>
        obtain ⟨x, hx1, vx⟩ := ha rfl rfl
        have x0 : x = 0 := vx.o.1.mp c2
        have e4 : andD a v e = some 0 := by unfold andD; rw [hx1, x0]; rfl
        rw [e4]; exact Ep_some ⟨rfl, Or.inl rfl⟩
    · have l1 : lv = true := by rw [iB_0] at c1; cases lv with | true => rfl | false => exact absurd rfl c1
      subst l1
      refine piece true _ (fun M2 v2 w2 br2 f2 g2 P2 => ?_)
      have P3 : Ep true br (andD a v e) (Vt1 v2) br2 := by
        refine ⟨fun l b0 => ?_, P2.2.2⟩
        obtain ⟨x, hx1, vx⟩ := ha rfl b0
        have x1 : x = 1 := by rcases vx.2 with w | w; exact absurd (vx.o.1.mpr w) c2; exact w
        have e4 : andD a v e = v e := by unfold andD; rw [hx1, x1]; rfl
        rw [e4]; exact P2.2.1 rfl b0
      exact ⟨fun w => loop M2 0 br2 f2 g2 (Or.inl rfl) (by rw [w] at P3; exact P3), fun w => loop M2 1 br2 f2 g2 (Or.inr rfl) (by have w1 : v2 = 1 := by { rcases P2.1 with z | z; exact absurd z w; exact z }; rw [w1] at P3; exact P3)⟩
  · rw [if_neg c] at hh
    cases hh
    refine hR M x2 0 br Fe.rf hg ⟨h01, ⟨fun l b => ?_, fun _ => rfl⟩⟩
    obtain ⟨x, hx, vx⟩ := ha l b
    rw [hx]
    exact ⟨fun y hy => (by cases hy; exact ⟨vx, b⟩), fun q => (by cases q)⟩
/-- what is behind the nots -/
theorem EV_11 (ho : Eo N b base T cd vl o e M0) (ih : EVs N b base T cd vl o e M0 F) {d p l : Nat} {a : Dn} {p1 l1 : Nat} {D : Dn} (hh : PP cd vl o (F + 1) 11 d p l a false = some (.inr (p1, l1, D))) {n : Nat} {M : gM} {R : Int32 → Int64 → gM → Prop} {lv br : Bool} (hn : F + 4 ≤ n) (hf : Fe b M0 M) (hg : Gt M b (base + p) br) (hp : p ≤ T) (hl : l ≤ 50) (hR : ∀ M1 v w br2, Fe b M M1 → Gt M1 b (base + p1) br2 → (v = 0 ∨ v = 1) ∧ Ep lv br (D e) (Vt1 v) br2 → R v w M1) : pX9_positiveOf_0 N (qgME N n) R M b (iB lv) := by
  rw [PP11] at hh
  unfold pX9_positiveOf_0
  rw [show fX9_sign 40 = iZ 140 from rfl, show fX9_sign 60 = iZ 160 from rfl, show fX9_sign 62 = iZ 162 from rfl]
  intro v1 hv1
  subst hv1
  refine passes_ok ho hf hg hp (by omega) (by omega) (fun c M1 f1 g1 => ⟨fun q => absurd q one0, fun _ => ?_⟩) (fun c => ⟨fun _ => ?_, fun q => absurd rfl q⟩)
  · rw [if_pos c] at hh
    have pp := tk_lt ho.2.2.1 hp (by omega)
    split at hh
    · cases hh
    rcases thn_inv hh with ⟨x, q1, q2⟩ | ⟨p2, l2, v, q1, q2⟩
    · cases q2
    refine ih 0 (d + 1) (p + 1) l a false p2 l2 v (by decide) (by decide) q1 n M1 _ lv br 0 0 hn (hf.tr f1) g1 pp hl ⟨fun q => absurd q (by decide), fun q => absurd q (by decide), fun q => absurd q (by decide)⟩ (fun M2 v2 w2 br2 f2 g2 P2 M6 e6 => ?_)
    unfold Pq at P2
    rw [if_pos (by decide)] at P2
    obtain ⟨g6, f6⟩ := g2.go e6
    refine ⟨P2.1, ?_⟩
    split at q2
    · cases q2
      exact hR M6 v2 0 br2 ((f1.tr f2).tr f6) g6 P2
    · cases q2
  · rw [if_neg c] at hh
    rcases thn_inv hh with ⟨x, q1, q2⟩ | ⟨p2, l2, v, q1, q2⟩
    · cases q2
    have hx := PP_in ho.2.2.1 _ _ _ _ _ _ _ _ (by decide) q1 hp hl
    split at q2
    case isFalse => cases q2
    rename_i c2
    rcases thn_inv q2 with ⟨x, q3, q4⟩ | ⟨p3, l3, v3, q3, q4⟩
    · cases q4
    have hp2 : p2 ≤ T := hx.2.1
    refine ih 6 d p l a false p2 l2 v (by decide) (by decide) q1 n M _ lv br 0 0 hn hf hg hp hl ⟨fun q => absurd q (by decide), fun q => absurd q (by decide), fun q => absurd q (by decide)⟩ (fun M2 v2 w2 br2 f2 g2 P2 => ?_)
    unfold Pq at P2
    rw [if_neg (by decide)] at P2
    obtain ⟨k1, k2⟩ := codeAt_ok ho (hf.tr f2) g2 hp2
    have k3 := cdr ho hp2
    refine ⟨k1, fun v4 hv4 M3 e3 => ?_⟩
    rw [k2] at hv4
    subst hv4
    obtain ⟨g3, f3⟩ := g2.go e3
    have pp := tk_lt (p := p2) ho.2.2.1 hp2 (by omega)
    refine ih 6 d (p2 + 1) l2 a false p3 l3 v3 (by decide) (by decide) q3 n M3 _ lv br2 0 0 hn ((hf.tr f2).tr f3) g3 pp hx.2.2.2 ⟨fun q => absurd q (by decide), fun q => absurd q (by decide), fun q => absurd q (by decide)⟩ (fun M4 v5 w5 br4 f4 g4 P4 => ?_)
    unfold Pq at P4
    rw [if_neg (by decide)] at P4
    cases q4
    have ff := (f2.tr f3).tr f4
    -- dead: whatever is told
    have dead : lv = false ∨ br4 = true → ∀ u, (u = 0 ∨ u = 1) → R u 0 M4 := fun hd u hu => by
      refine hR M4 u 0 br4 ff g4 ⟨hu, ⟨fun l b0 => ?_, fun q => ?_⟩⟩
      · have b4 : br4 = true := by
          rcases hd with q | q
          · rw [q] at l; cases l
          · exact q
        have e5 : cpD (cd p2) v v3 e = none := by
          unfold cpD
          cases hv1 : v e with
          | none => rfl
          | some x =>
            have b2 := ((P2.1 l b0).1 x hv1).2
            cases hv3 : v3 e with
            | none => rfl
            | some y =>
              have b5 := ((P4.1 l b2).1 y hv3).2
              rw [b5] at b4; cases b4
        show (∀ x, (cpD (cd p2) v v3) e = some x → _) ∧ ((cpD (cd p2) v v3) e = none → _)
        rw [e5]
        exact ⟨fun y hy => (by cases hy), fun _ => b4⟩
      · have b2 := P2.2 q
        have : lv = false ∨ br2 = true := by
          rcases q with q | q
          · exact Or.inl q
          · exact Or.inr (b2.trans q)
        exact (P4.2 this).trans b2
    refine ⟨fun c1 => ?_, fun c1 => ⟨fun c3 => ?_, fun c3 => ?_⟩⟩
    · rw [iB_0] at c1; exact dead (Or.inl c1) 0 (Or.inl rfl)
    · rw [g4.2] at c3
      have b4 : br4 = true := by rw [iB_0] at c3; cases br4 with | true => rfl | false => exact absurd rfl c3
      exact dead (Or.inr b4) 0 (Or.inl rfl)
    · rw [g4.2, iB_0] at c3
      have l1 : lv = true := by rw [iB_0] at c1; cases lv with | true => rfl | false => exact absurd rfl c1
      obtain ⟨b2, y, hy, vy⟩ := P4.val l1 c3
      obtain ⟨b0, x, hx3, vx⟩ := P2.val l1 b2
      subst l1 c3 b0
      have tell : ∀ u, u = iZ (cp (cd p2) x y) → R u 0 M4 := fun u hu => by
        refine hR M4 u 0 false ff g4 ⟨?_, ?_⟩
        · rw [hu]; rcases cp01 (cd p2) x y with z | z <;> rw [z] <;> decide
        · have e5 : cpD (cd p2) v v3 e = some (cp (cd p2) x y) := by unfold cpD; rw [hx3, hy]; rfl
          show Ep true false ((cpD (cd p2) v v3) e) (Vt1 u) false
          rw [e5]
          exact Ep_some ⟨hu, cp01 _ _ _⟩
      obtain ⟨z1, z2, z3⟩ := lg_lt vx.2.1 vx.2.2 vy.2.1 vy.2.2
      have t1 : (iZ (cd p2) = iZ 160) = (cd p2 = 160) := iZ_eq (by omega) (by omega) (by omega) (by omega)
      have t2 : (iZ (cd p2) = iZ 162) = (cd p2 = 162) := iZ_eq (by omega) (by omega) (by omega) (by omega)
      rw [vx.1, vy.1, z1, z2, z3]
      intro v6 hv6
      subst hv6
      rw [t1]
      refine ⟨fun c4 v7 hv7 => ?_, fun c4 => ⟨fun c5 => tell 0 ?_, fun c5 => tell 1 ?_⟩⟩
      · subst hv7
        rw [t2]
        refine ⟨fun c6 => ⟨fun c5 => tell 0 ?_, fun c5 => tell 1 ?_⟩, fun c6 => ⟨fun c5 => tell 0 ?_, fun c5 => tell 1 ?_⟩⟩
        all_goals (unfold cp; rw [if_neg c4])
        · rw [if_neg c6, if_neg c5]; rfl
        · rw [if_neg c6, if_pos c5]; rfl
        · rw [if_pos c6, if_neg (by omega)]; rfl
        · rw [if_pos c6, if_pos (by omega)]; rfl
      all_goals (unfold cp; rw [if_pos c4])
      · rw [if_neg (by omega)]; rfl
      · rw [if_pos (by omega)]; rfl
end ME3
