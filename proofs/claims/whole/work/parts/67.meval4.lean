/-! The reference's evaluator: parts; all nodes together. -/
def xr (p q : Bool) : Bool := if q then !p else p
section ME4
variable {N b base T : Nat} {cd vl : Nat → Int} {o : Bool} {e : En} {M0 : gM} {F : Nat}
theorem EV_10 (ho : Eo N b base T cd vl o e M0) (ih : EVs N b base T cd vl o e M0 F) {d p l : Nat} {a : Dn} {q : Bool} {p1 l1 : Nat} {D : Dn} (hh : PP cd vl o (F + 1) 10 d p l a q = some (.inr (p1, l1, D))) {n : Nat} {M : gM} {R : Int32 → Int64 → gM → Prop} {lv br : Bool} (hn : F + 4 ≤ n) (hf : Fe b M0 M) (hg : Gt M b (base + p) br) (hp : p ≤ T) (hl : l ≤ 50) (hR : ∀ M1 v w br2, Fe b M M1 → Gt M1 b (base + p1) br2 → Ep lv br (D e) (Vs1 w) br2 → R v w M1) : pX9_partOf_0 N (qgME N n) R M b (iB lv) := by
  rw [PP10] at hh
  have hTb : T ≤ 400 := ho.1
  have hbb : base ≤ 2400 := ho.2.1
  have heb : Eb e := ho.2.2.2.2.2.2.2.2
  unfold pX9_partOf_0
  rw [show fX9_sign 91 = iZ 191 from rfl]
  intro v1 hv1
  subst hv1
  refine passes_ok ho hf hg hp (by omega) (by omega) (fun c M1 f1 g1 => ⟨fun q => absurd q one0, fun _ => ?_⟩) (fun c => ⟨fun _ => ?_, fun q => absurd rfl q⟩)
  · rw [if_pos c] at hh
    have pp := tk_lt ho.2.2.1 hp (by omega)
    split at hh
    · cases hh
    rcases thn_inv hh with ⟨x, q1, q2⟩ | ⟨p2, l2, v, q1, q2⟩
    · cases q2
    refine ih 6 (d + 1) (p + 1) l a false p2 l2 v (by decide) (by decide) q1 n M1 _ lv br 0 0 hn (hf.tr f1) g1 pp hl ⟨fun q => absurd q (by decide), fun q => absurd q (by decide), fun q => absurd q (by decide)⟩ (fun M2 v2 w2 br2 f2 g2 P2 M6 e6 => ?_)
    unfold Pq at P2
    rw [if_neg (by decide)] at P2
    obtain ⟨g6, f6⟩ := g2.go e6
    split at q2
    · cases q2
      exact hR M6 0 w2 br2 ((f1.tr f2).tr f6) g6 P2
    · cases q2
  · rw [if_neg c] at hh
    split at hh
    case isFalse => cases hh
    rename_i c1
    split at hh
    · cases hh
    rename_i c50
    have w1 := wlo_b o
    have w2 := whi_b o
    have cp0 : cd p ≠ 0 := by omega
    have pp := tk_lt ho.2.2.1 hp cp0
    obtain ⟨k1, k2⟩ := codeAt_ok ho hf hg hp
    have kp := ho.2.2.2.2.2.1 p (by omega)
    refine ⟨k1, fun v3 hv3 M2 e2 => ?_⟩
    rw [k2] at hv3
    subst hv3
    obtain ⟨g2, f2⟩ := hg.go e2
    have t12 : (iZ (cd p) = 12) = (cd p = 12) := by rw [iZ_l12]; exact iZ_eq (by omega) (by omega) (by omega) (by omega)
    have t17 : (iZ (cd p) = 17) = (cd p = 17) := by rw [iZ_l17]; exact iZ_eq (by omega) (by omega) (by omega) (by omega)
    have t50 : (iZ (cd p) = 50) = (cd p = 50) := by rw [iZ_l50]; exact iZ_eq (by omega) (by omega) (by omega) (by omega)
    have o2 : ∀ M3, Fe b M M3 → g_mi M3 b 25 = iB o := fun M3 f3 => by rw [(hf.tr f3) _ _ (Or.inr (by decide))]; exact ho.2.2.2.2.1
    have fin : ∀ M3 w, Fe b M M3 → Gt M3 b (base + p1) br → (lv = true → br = false → ∃ x, D e = some x ∧ Vs1 w x) → R 0 w M3 := fun M3 w f3 g3 hx => by
      refine hR M3 0 w br f3 g3 ⟨fun l b0 => ?_, fun _ => rfl⟩
      obtain ⟨x, hx1, hx2⟩ := hx l b0
      rw [hx1]
      exact ⟨fun y hy => (by cases hy; exact ⟨hx2, b0⟩), fun q => (by cases q)⟩
    have dead : ∀ M3 w, Fe b M M3 → Gt M3 b (base + p1) br → (lv = false ∨ br = true) → R 0 w M3 := fun M3 w f3 g3 hx => fin M3 w f3 g3 (fun l b0 => by rcases hx with h | h <;> simp_all)
    have br1 : ∀ M3, Gt M3 b (base + p1) br → ¬ g_mi M3 b 24 = 0 → br = true := fun M3 g3 hq => by
      rw [g3.2, iB_0] at hq
      cases br with | true => rfl | false => exact absurd rfl hq
    have br0 : ∀ M3, Gt M3 b (base + p1) br → g_mi M3 b 24 = 0 → br = false := fun M3 g3 hq => by rw [g3.2, iB_0] at hq; exact hq
    have lv0 : iB lv = 0 → lv = false := fun hq => by rw [iB_0] at hq; exact hq
    -- a number
    have num : cd p = 50 → vl p ≤ 1000 → D e = some (vl p) → vp_in (3012 + g_mi M2 b 22 - 1) 5812 ∧ (∃ x, D e = some x ∧ Vs1 (g_mi M2 (b + 2) (3012 + g_mi M2 b 22 - 1).toNatClampNeg).toInt64 x) := fun c2 c3 hD => by
      rw [g2.1, show (3012 : Int32) = iZ ((3012 : Nat) : Int) from rfl, iZ_add, iZ_l1, iZ_sub]
      refine ⟨iZ_in (by omega) (by omega) (by omega), vl p, hD, ?_, by omega, by omega⟩
      rw [iZ_nat (by omega) (by omega), show ((((3012 : Nat) : Int) + ((base + p + 1 : Nat) : Int) - 1)).toNat = 3012 + (base + p) by omega, (hf.tr f2) _ _ (Or.inl (by omega)), kp.2.1, iL_z (by omega) (by omega)]
    by_cases c5 : o = true ∧ (cd p = 12 ∨ cd p = 17)
    · -- a word with a number behind it
      rw [if_pos c5] at hh
      split at hh
      case isFalse => cases hh
      rename_i c6
      cases hh
      have p2 := tk_lt (p := p + 1) ho.2.2.1 pp (by omega)
      have kq := ho.2.2.2.2.2.1 (p + 1) (by omega)
      have val : vp_in (3012 + g_mi M2 b 22) 5812 ∧ g_mi M2 (b + 2) (3012 + g_mi M2 b 22).toNatClampNeg = iZ (vl (p + 1)) := by
        rw [g2.1, show (3012 : Int32) = iZ ((3012 : Nat) : Int) from rfl, iZ_add]
        refine ⟨iZ_in (by omega) (by omega) (by omega), ?_⟩
        rw [iZ_nat (by omega) (by omega), show ((((3012 : Nat) : Int) + ((base + p + 1 : Nat) : Int))).toNat = 3012 + (base + (p + 1)) by omega, (hf.tr f2) _ _ (Or.inl (by omega)), kq.2.1]
      have okw : okW (cd p) (vl (p + 1)) := by
        rcases c5.2 with z | z
        · left; refine ⟨z, c6.2.1, ?_⟩; have := c6.2.2; rw [z] at this; exact this
        · right; left; refine ⟨z, c6.2.1, ?_⟩; have := c6.2.2; rw [z] at this; exact this
      -- behind the number
      have beh : vp_in (3012 + g_mi M2 b 22) 5812 ∧ ∀ M3 : gM, M3 = g_wi M2 b 22 (g_mi M2 b 22 + 1) → ((iB lv = 0 → R 0 0 M3) ∧ (¬ iB lv = 0 → ((g_mi M3 b 24 = 0 → ((g_mi M3 b 25 = 0 → vp_in (iZ (cd p) - 7) 7 ∧ R 0 ((g_mi M3 (b + 12) (iZ (cd p) - 7).toNatClampNeg).toInt64) M3) ∧ (¬ g_mi M3 b 25 = 0 → pX9_orderValue N 0 M3 b (iZ (cd p)) (g_mi M2 (b + 2) (3012 + g_mi M2 b 22).toNatClampNeg) (fun v4 => R 0 v4.toInt64 M3)))) ∧ (¬ g_mi M3 b 24 = 0 → R 0 0 M3)))) := by
        refine ⟨val.1, fun M3 e3 => ?_⟩
        obtain ⟨g3, f3⟩ := g2.go e3
        have f3' := f2.tr f3
        refine ⟨fun z => dead M3 0 f3' g3 (Or.inl (lv0 z)), fun _ => ⟨fun z => ⟨fun z2 => ?_, fun _ => ?_⟩, fun z => dead M3 0 f3' g3 (Or.inr (br1 M3 g3 z))⟩⟩
        · rw [o2 M3 f3', c5.1] at z2; exact absurd z2 (by decide)
        · rw [val.2]
          refine ho.2.2.2.2.2.2.2.1 c5.1 _ _ _ M3 (hf.tr f3') okw ?_
          have eb := heb (cd p) (vl (p + 1))
          rw [iL_z (by omega) (by omega)]
          exact fin M3 _ f3' g3 (fun _ _ => ⟨_, rfl, rfl, eb⟩)
      rw [o2 M2 f2, c5.1, t12, t17]
      refine ⟨fun z => absurd z (by decide), fun _ => ⟨fun z => beh, fun z => ⟨fun z2 => absurd c5.2 (by omega), fun z2 => beh⟩⟩⟩
    · rw [if_neg c5] at hh
      cases hh
      rw [o2 M2 f2, t12, t17, t50]
      refine ⟨fun z => ⟨fun z2 => dead M2 0 f2 g2 (Or.inl (lv0 z2)), fun _ => ⟨fun z2 => ⟨fun z3 => ?_, fun z3 => ?_⟩, fun z2 => dead M2 0 f2 g2 (Or.inr (br1 M2 g2 z2))⟩⟩, fun z => ⟨fun z2 => ?_, fun z2 => ⟨fun z3 => ⟨fun z4 => dead M2 0 f2 g2 (Or.inl (lv0 z4)), fun _ => ⟨fun z4 => ⟨fun z5 => ?_, fun z5 => ?_⟩, fun z4 => dead M2 0 f2 g2 (Or.inr (br1 M2 g2 z4))⟩⟩, fun z3 => ?_⟩⟩⟩
      · -- a law's word
        rw [iB_0] at z
        have e7 : wlo o = 7 := by rw [z]; rfl
        have e13 : whi o = 13 := by rw [z]; rfl
        rw [iZ_l7, iZ_sub]
        refine ⟨iZ_in (by omega) (by omega) (by omega), ?_⟩
        have ea := ho.2.2.2.2.2.2.1 z (cd p - 7).toNat (by omega)
        have eb := heb (7 + (((cd p - 7).toNat : Nat) : Int)) 0
        have ec : (7 + (((cd p - 7).toNat : Nat) : Int)) = cd p := by omega
        rw [ec] at ea eb
        rw [iZ_nat (by omega) (by omega), (hf.tr f2) _ _ (Or.inl (by omega)), ea, iL_z (by omega) (by omega)]
        refine fin M2 _ f2 g2 (fun _ _ => ⟨e (cd p) 0, ?_, rfl, eb⟩)
        show (if cd p = 50 then kD (vl p) else wD (cd p) 0) e = _
        rw [if_neg z3]; rfl
      · have hD : (if cd p = 50 then kD (vl p) else wD (cd p) 0) e = some (vl p) := by rw [if_pos z3]; rfl
        obtain ⟨n1, n2⟩ := num z3 (by omega) hD
        exact ⟨n1, fin M2 _ f2 g2 (fun _ _ => n2)⟩
      · have oo : o = true := by rw [iB_0] at z; cases o with | true => rfl | false => exact absurd rfl z
        exact absurd ⟨oo, Or.inl z2⟩ c5
      · -- a word of orders
        have oo : o = true := by rw [iB_0] at z; cases o with | true => rfl | false => exact absurd rfl z
        have e7 : wlo o = 12 := by rw [oo]; rfl
        have e13 : whi o = 17 := by rw [oo]; rfl
        refine ho.2.2.2.2.2.2.2.1 oo (cd p) 0 _ M2 (hf.tr f2) (Or.inr (Or.inr ⟨by omega, by omega, rfl⟩)) ?_
        have eb := heb (cd p) 0
        rw [iL_z (by omega) (by omega)]
        refine fin M2 _ f2 g2 (fun _ _ => ⟨e (cd p) 0, ?_, rfl, eb⟩)
        show (if cd p = 50 then kD (vl p) else wD (cd p) 0) e = _
        rw [if_neg z5]; rfl
      · have hD : (if cd p = 50 then kD (vl p) else wD (cd p) 0) e = some (vl p) := by rw [if_pos z5]; rfl
        obtain ⟨n1, n2⟩ := num z5 (by omega) hD
        exact ⟨n1, fin M2 _ f2 g2 (fun _ _ => n2)⟩
      · have oo : o = true := by rw [iB_0] at z; cases o with | true => rfl | false => exact absurd rfl z
        exact absurd ⟨oo, Or.inr z3⟩ c5
theorem EV_5 (ho : Eo N b base T cd vl o e M0) (ih : EVs N b base T cd vl o e M0 F) {d p l : Nat} {a : Dn} {q : Bool} {p1 l1 : Nat} {D : Dn} (hh : PP cd vl o (F + 1) 5 d p l a q = some (.inr (p1, l1, D))) {n : Nat} {M : gM} {R : Int32 → Int64 → gM → Prop} {lv br : Bool} (hn : F + 4 ≤ n) (hf : Fe b M0 M) (hg : Gt M b (base + p) br) (hp : p ≤ T) (hl : l ≤ 50) (hR : ∀ M1 v w br2, Fe b M M1 → Gt M1 b (base + p1) br2 → (v = 0 ∨ v = 1) ∧ Ep lv br (D e) (Vt1 v) br2 → R v w M1) : pX9_plainOf_2 N (qgME N n) R M b (iB lv) (iB q) := by
  rw [PP5] at hh
  unfold pX9_plainOf_2
  refine passes_ok (c := 6) ho hf hg hp (by omega) (by omega) (fun c M1 f1 g1 => ⟨fun z => absurd z one0, fun _ => ?_⟩) (fun c => ⟨fun _ => ?_, fun z => absurd rfl z⟩)
  · rw [if_pos c] at hh
    have pp := tk_lt ho.2.2.1 hp (by omega)
    have k := ih 5 d (p + 1) l a (!q) p1 l1 D (by decide) (fun z => absurd z (by decide)) hh n M1 R lv br (iB (!q)) 0 hn (hf.tr f1) g1 pp hl ⟨fun z => absurd z (by decide), fun _ => rfl, fun z => absurd z (by decide)⟩ (fun M2 v2 w2 br2 f2 g2 P2 => hR M2 v2 w2 br2 (f1.tr f2) g2 (by unfold Pq at P2; rw [if_pos (by decide)] at P2; exact P2))
    rw [iB_0]
    cases q with
    | true => exact ⟨fun _ => k, fun z => absurd z (by decide)⟩
    | false => exact ⟨fun z => absurd rfl z, fun _ => k⟩
  · rw [if_neg c] at hh
    obtain ⟨D0, h0, hD⟩ := PP11_q hh
    refine ih 11 d p l a false p1 l1 D0 (by decide) (fun _ => rfl) h0 n M _ lv br 0 0 hn hf hg hp hl ⟨fun z => absurd z (by decide), fun z => absurd z (by decide), fun z => absurd z (by decide)⟩ (fun M2 v2 w2 br2 f2 g2 P2 => ?_)
    unfold Pq at P2
    rw [if_pos (by decide)] at P2
    have tell : ∀ v : Int32, (v = 0 ∨ v = 1) → (v = iB (xr (v2 == 1) q)) → R v 0 M2 := fun v h01 hv => by
      refine hR M2 v 0 br2 f2 g2 ⟨h01, ⟨fun l b0 => ?_, P2.2.2⟩⟩
      have P3 := P2.2.1 l b0
      cases q with
      | false =>
        rw [if_neg (by decide)] at hD
        rw [hD]
        refine ⟨fun x hx => ⟨?_, (P3.1 x hx).2⟩, P3.2⟩
        have vx := (P3.1 x hx).1
        rw [hv]
        rcases P2.1 with z | z <;> rw [z] at vx ⊢ <;> exact vx
      | true =>
        rw [if_pos rfl] at hD
        rw [hD]
        unfold notD
        refine ⟨fun x hx => ?_, fun hx => P3.2 ?_⟩
        · cases hy : D0 e with
          | none => rw [hy] at hx; cases hx
          | some y =>
            rw [hy] at hx
            cases hx
            have vy := (P3.1 y hy).1
            refine ⟨⟨?_, ?_⟩, (P3.1 y hy).2⟩
            · rw [hv, vy.1]
              rcases vy.2 with z | z <;> rw [z] <;> decide
            · rcases vy.2 with z | z <;> rw [z] <;> decide
        · cases hy : D0 e with
          | none => rfl
          | some y => rw [hy] at hx; cases hx
    refine ⟨fun z => tell 0 (Or.inl rfl) ?_, fun z => tell 1 (Or.inr rfl) ?_⟩
    · rw [z]; cases q <;> decide
    · rcases P2.1 with y | y <;> rw [y] at z ⊢ <;> cases q <;> first | decide | exact absurd rfl z
theorem EV_all (ho : Eo N b base T cd vl o e M0) : ∀ F, EVs N b base T cd vl o e M0 F := by
  intro F
  induction F with
  | zero => intro h d p l a q p1 l1 D _ _ hh; cases hh
  | succ F ih =>
    intro h d p l a q p1 l1 D h11 hq hh n M R lv br x2 y2 hn hf hg hp hl hI hR
    obtain ⟨m, rfl⟩ : ∃ m, n = m + 1 := ⟨n - 1, by omega⟩
    have hm : F + 4 ≤ m := by omega
    match h, h11, hq, hh, hI, hR with
    | 0, _, _, hh, hI, hR =>
      rw [PP0] at hh
      exact EV_twoT ho ih (Or.inl ⟨rfl, rfl⟩) hh hm hf hg hp hl (fun M1 v w br2 f1 g1 P1 => hR M1 v w br2 f1 g1 (by unfold Pq; rw [if_pos (by decide)]; exact P1))
    | 1, _, _, hh, hI, hR =>
      exact EV_1 ho ih hh hm hf hg hp hl (hI.1 (Or.inl rfl)).1 (hI.1 (Or.inl rfl)).2 (fun M1 v w br2 f1 g1 P1 => hR M1 v w br2 f1 g1 (by unfold Pq; rw [if_pos (by decide)]; exact P1))
    | 2, _, _, hh, hI, hR =>
      rw [PP2] at hh
      exact EV_twoT ho ih (Or.inr ⟨rfl, rfl⟩) hh hm hf hg hp hl (fun M1 v w br2 f1 g1 P1 => hR M1 v w br2 f1 g1 (by unfold Pq; rw [if_pos (by decide)]; exact P1))
    | 3, _, _, hh, hI, hR =>
      exact EV_3 ho ih hh hm hf hg hp hl (hI.1 (Or.inr rfl)).1 (hI.1 (Or.inr rfl)).2 (fun M1 v w br2 f1 g1 P1 => hR M1 v w br2 f1 g1 (by unfold Pq; rw [if_pos (by decide)]; exact P1))
    | 4, _, _, hh, hI, hR =>
      rw [PP4] at hh
      refine ih 5 d p l a false p1 l1 D (by decide) (by decide) hh m M R lv br 0 0 hm hf hg hp hl ⟨fun z => absurd z (by decide), fun _ => rfl, fun z => absurd z (by decide)⟩ (fun M1 v w br2 f1 g1 P1 => hR M1 v w br2 f1 g1 ?_)
      unfold Pq at P1 ⊢
      rw [if_pos (by decide)] at P1 ⊢
      exact P1
    | 5, _, _, hh, hI, hR =>
      have hx := hI.2.1 rfl
      subst hx
      exact EV_5 ho ih hh hm hf hg hp hl (fun M1 v w br2 f1 g1 P1 => hR M1 v w br2 f1 g1 (by unfold Pq; rw [if_pos (by decide)]; exact P1))
    | 6, _, _, hh, hI, hR =>
      rw [PP6] at hh
      exact EV_twoS ho ih (Or.inl ⟨rfl, rfl⟩) hh hm hf hg hp hl (fun M1 v w br2 f1 g1 P1 => hR M1 v w br2 f1 g1 (by unfold Pq; rw [if_neg (by decide)]; exact P1))
    | 7, _, _, hh, hI, hR =>
      exact EV_7 ho ih hh hm hf hg hp hl (hI.2.2 (Or.inl rfl)) (fun M1 v w br2 f1 g1 P1 => hR M1 v w br2 f1 g1 (by unfold Pq; rw [if_neg (by decide)]; exact P1))
    | 8, _, _, hh, hI, hR =>
      rw [PP8] at hh
      exact EV_twoS ho ih (Or.inr ⟨rfl, rfl⟩) hh hm hf hg hp hl (fun M1 v w br2 f1 g1 P1 => hR M1 v w br2 f1 g1 (by unfold Pq; rw [if_neg (by decide)]; exact P1))
    | 9, _, _, hh, hI, hR =>
      exact EV_9 ho ih hh hm hf hg hp hl (hI.2.2 (Or.inr rfl)) (fun M1 v w br2 f1 g1 P1 => hR M1 v w br2 f1 g1 (by unfold Pq; rw [if_neg (by decide)]; exact P1))
    | 10, _, _, hh, hI, hR =>
      exact EV_10 ho ih hh hm hf hg hp hl (fun M1 v w br2 f1 g1 P1 => hR M1 v w br2 f1 g1 (by unfold Pq; rw [if_neg (by decide)]; exact P1))
    | 11, _, hq, hh, hI, hR =>
      have q0 := hq rfl
      subst q0
      exact EV_11 ho ih hh hm hf hg hp hl (fun M1 v w br2 f1 g1 P1 => hR M1 v w br2 f1 g1 (by unfold Pq; rw [if_pos (by decide)]; exact P1))
    | h + 12, hx, _, _, _, _ => exact absurd hx (by omega)
end ME4
