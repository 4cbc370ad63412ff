/-! The reference's evaluator: its nodes. -/
theorem Ep.val {lv br br1 : Bool} {D : Option Int} {V : Int → Prop} (h : Ep lv br D V br1) (l : lv = true) (b1 : br1 = false) : br = false ∧ ∃ x, D = some x ∧ V x := by
  cases br with
  | true => have := h.2 (Or.inr rfl); rw [this] at b1; cases b1
  | false =>
    refine ⟨rfl, ?_⟩
    cases D with
    | none => have := (h.1 l rfl).2 rfl; rw [this] at b1; cases b1
    | some x => exact ⟨x, rfl, ((h.1 l rfl).1 x rfl).1⟩
section ME2
variable {N b base T : Nat} {cd vl : Nat → Int} {o : Bool} {e : En} {M0 : gM} {F : Nat}
theorem EV_twoT (ho : Eo N b base T cd vl o e M0) (ih : EVs N b base T cd vl o e M0 F) {h1 h2 d p l : Nat} {a : Dn} {p1 l1 : Nat} {D : Dn} (u : (h1 = 2 ∧ h2 = 1) ∨ (h1 = 4 ∧ h2 = 3)) (hh : thn (PP cd vl o F h1 d p l a false) (fun p2 l2 v => PP cd vl o F h2 d p2 l2 v false) = some (.inr (p1, l1, D))) {n : Nat} {M : gM} {R : Int32 → Int64 → gM → Prop} {lv br : Bool} (hn : F + 4 ≤ n) (hf : Fe b M0 M) (hg : Gt M b (base + p) br) (hp : p ≤ T) (hl : l ≤ 50) (hR : ∀ M1 v w br2, Fe b M M1 → Gt M1 b (base + p1) br2 → (v = 0 ∨ v = 1) ∧ Ep lv br (D e) (Vt1 v) br2 → R v w M1) : qgME N n h1 M b (iB lv) 0 0 (fun v _ M1 => qgME N n h2 M1 b (iB lv) v 0 R) := by
  rcases thn_inv hh with ⟨x, q1, q2⟩ | ⟨p2, l2, v, q1, q2⟩
  · cases q2
  · have hx := PP_in ho.2.2.1 _ _ _ _ _ _ _ _ (by omega) q1 hp hl
    have k := ih h1 d p l a false p2 l2 v (by omega) (by omega) q1 n M (fun v _ M1 => qgME N n h2 M1 b (iB lv) v 0 R) lv br 0 0 hn hf hg hp hl ⟨fun q => absurd q (by omega), fun q => absurd q (by omega), fun q => absurd q (by omega)⟩
    have e1 : enn h1 = h1 := by rcases u with u | u <;> rw [u.1] <;> rfl
    have e2 : enn h2 = h2 := by rcases u with u | u <;> rw [u.2] <;> rfl
    rw [e1] at k
    refine k (fun M1 v1 w1 br1 f1 g1 P1 => ?_)
    unfold Pq at P1
    rw [if_pos (by omega)] at P1
    have k2 := ih h2 d p2 l2 v false p1 l1 D (by omega) (by omega) q2 n M1 R lv br1 v1 0 hn (hf.tr f1) g1 hx.2.1 hx.2.2.2 ⟨fun _ => ⟨P1.1, fun l b1 => (P1.2.val l b1).2⟩, fun q => absurd q (by omega), fun q => absurd q (by omega)⟩
    rw [e2] at k2
    refine k2 (fun M2 v2 w2 br2 f2 g2 P2 => hR M2 v2 w2 br2 (f1.tr f2) g2 ?_)
    unfold Pq at P2
    rw [if_pos (by omega)] at P2
    exact ⟨P2.1, P1.2.comb P2.2 (fun hv => PP_str _ _ _ _ _ _ _ _ _ (by omega) q2 hv)⟩
theorem EV_twoS (ho : Eo N b base T cd vl o e M0) (ih : EVs N b base T cd vl o e M0 F) {h1 h2 d p l : Nat} {a : Dn} {p1 l1 : Nat} {D : Dn} (u : (h1 = 8 ∧ h2 = 7) ∨ (h1 = 10 ∧ h2 = 9)) (hh : thn (PP cd vl o F h1 d p l a false) (fun p2 l2 v => PP cd vl o F h2 d p2 l2 v false) = some (.inr (p1, l1, D))) {n : Nat} {M : gM} {R : Int32 → Int64 → gM → Prop} {lv br : Bool} (hn : F + 4 ≤ n) (hf : Fe b M0 M) (hg : Gt M b (base + p) br) (hp : p ≤ T) (hl : l ≤ 50) (hR : ∀ M1 v w br2, Fe b M M1 → Gt M1 b (base + p1) br2 → Ep lv br (D e) (Vs1 w) br2 → R v w M1) : qgME N n (enn h1) M b (iB lv) 0 0 (fun _ w M1 => qgME N n (enn h2) M1 b (iB lv) 0 w R) := by
  rcases thn_inv hh with ⟨x, q1, q2⟩ | ⟨p2, l2, v, q1, q2⟩
  · cases q2
  · have hx := PP_in ho.2.2.1 _ _ _ _ _ _ _ _ (by omega) q1 hp hl
    refine ih h1 d p l a false p2 l2 v (by omega) (by omega) q1 n M (fun _ w M1 => qgME N n (enn h2) M1 b (iB lv) 0 w R) lv br 0 0 hn hf hg hp hl ⟨fun q => absurd q (by omega), fun q => absurd q (by omega), fun q => absurd q (by omega)⟩ (fun M1 v1 w1 br1 f1 g1 P1 => ?_)
    unfold Pq at P1
    rw [if_neg (by omega)] at P1
    refine ih h2 d p2 l2 v false p1 l1 D (by omega) (by omega) q2 n M1 R lv br1 0 w1 hn (hf.tr f1) g1 hx.2.1 hx.2.2.2 ⟨fun q => absurd q (by omega), fun q => absurd q (by omega), fun _ l b1 => (P1.val l b1).2⟩ (fun M2 v2 w2 br2 f2 g2 P2 => hR M2 v2 w2 br2 (f1.tr f2) g2 ?_)
    unfold Pq at P2
    rw [if_neg (by omega)] at P2
    exact P1.comb P2 (fun hv => PP_str _ _ _ _ _ _ _ _ _ (by omega) q2 hv)
/-- behind the second piece of a sum, a term: bounded, and the loop again -/
theorem EV_op (ih : EVs N b base T cd vl o e M0 F) {h2 d p2 l2 : Nat} {a Dv : Dn} {s : Int} {p1 l1 : Nat} {D : Dn} (u : h2 = 7 ∨ h2 = 9) (q2 : PP cd vl o F h2 d p2 l2 (arD s a Dv) false = some (.inr (p1, l1, D))) {n : Nat} {M2 : gM} {R : Int32 → Int64 → gM → Prop} {lv br br1 : Bool} {y2 w2 Y : Int64} (hn : F + 4 ≤ n) (hf : Fe b M0 M2) (hg : Gt M2 b (base + p2) br1) (hp : p2 ≤ T) (hl : l2 ≤ 50) (ha : lv = true → br = false → ∃ x, a e = some x ∧ Vs1 y2 x) (h1 : Ep lv br (Dv e) (Vs1 w2) br1) (hY : ∀ x z, Vs1 y2 x → Vs1 w2 z → ∃ r, Y = iL r ∧ ar s x z = bdd r ∧ -2000000000000000000 ≤ r ∧ r ≤ 2000000000000000000) (hR : ∀ M1 v w br2, Fe b M2 M1 → Gt M1 b (base + p1) br2 → Ep lv br (D e) (Vs1 w) br2 → R v w M1) : pX9_bounded N 0 M2 b Y (iB lv) (fun v6 M3 => qgME N n (enn h2) M3 b (iB lv) 0 v6 R) := by
  have go : ∀ M3 v6 br3, Fe b M2 M3 → Gt M3 b (base + p2) br3 → Ep lv br (arD s a Dv e) (Vs1 v6) br3 → qgME N n (enn h2) M3 b (iB lv) 0 v6 R := fun M3 v6 br3 f3 g3 P3 => by
    refine ih h2 d p2 l2 (arD s a Dv) false p1 l1 D (by omega) (by omega) q2 n M3 R lv br3 0 v6 hn (hf.tr f3) g3 hp hl ⟨fun q => absurd q (by omega), fun q => absurd q (by omega), fun _ l b1 => (P3.val l b1).2⟩ (fun M4 v4 w4 br4 f4 g4 P4 => hR M4 v4 w4 br4 (f3.tr f4) g4 ?_)
    unfold Pq at P4
    rw [if_neg (by omega)] at P4
    exact P3.comb P4 (fun hv => PP_str _ _ _ _ _ _ _ _ _ (by omega) q2 hv)
  by_cases c : lv = true ∧ br1 = false
  · obtain ⟨c1, c2⟩ := c
    obtain ⟨b0, z, hz, vz⟩ := h1.val c1 c2
    obtain ⟨x, hx, vx⟩ := ha c1 b0
    obtain ⟨r, e1, e2, r1, r2⟩ := hY x z vx vz
    subst c1 c2 b0
    rw [e1]
    have e3 : arD s a Dv e = bdd r := by
      unfold arD; rw [hx, hz]; exact e2
    refine bnd_live hg r1 r2 (fun q => go M2 _ false Fe.rf hg ?_) (fun q M3 f3 g3 => go M3 _ true f3 g3 ?_)
    · rw [e3, bdd, if_pos q]; exact Ep_some ⟨rfl, q⟩
    · rw [e3, bdd, if_neg q]; exact Ep_none
  · have c1 : lv = false ∨ br1 = true := by
      cases lv with
      | false => exact Or.inl rfl
      | true => cases br1 with
        | true => exact Or.inr rfl
        | false => exact absurd ⟨rfl, rfl⟩ c
    refine bnd_dead hg c1 (fun w M3 f3 g3 => go M3 w br1 f3 g3 ⟨fun l b0 => ?_, h1.2⟩)
    have b1 : br1 = true := by
      rcases c1 with q | q
      · rw [q] at l; cases l
      · exact q
    cases hz : Dv e with
    | some z => have := ((h1.1 l b0).1 z hz).2; rw [this] at b1; cases b1
    | none =>
      obtain ⟨x, hx, _⟩ := ha l b0
      have e3 : arD s a Dv e = none := by unfold arD; rw [hx, hz]; rfl
      rw [e3]
      exact ⟨fun x hx => (by cases hx), fun _ => b1⟩
theorem EV_7 (ho : Eo N b base T cd vl o e M0) (ih : EVs N b base T cd vl o e M0 F) {d p l : Nat} {a : Dn} {q : Bool} {p1 l1 : Nat} {D : Dn} (hh : PP cd vl o (F + 1) 7 d p l a q = some (.inr (p1, l1, D))) {n : Nat} {M : gM} {R : Int32 → Int64 → gM → Prop} {lv br : Bool} {y2 : Int64} (hn : F + 4 ≤ n) (hf : Fe b M0 M) (hg : Gt M b (base + p) br) (hp : p ≤ T) (hl : l ≤ 50) (ha : lv = true → br = false → ∃ x, a e = some x ∧ Vs1 y2 x) (hR : ∀ M1 v w br2, Fe b M M1 → Gt M1 b (base + p1) br2 → Ep lv br (D e) (Vs1 w) br2 → R v w M1) : pX9_sumOf_6 N (qgME N n) R M b (iB lv) y2 := by
  obtain ⟨k1, k2⟩ := codeAt_ok ho hf hg hp
  have k3 := cdr ho hp
  rw [PP7] at hh
  have stay : ¬ (cd p = 143 ∨ cd p = 145) → R 0 y2 M := fun c => by
    rw [if_neg c] at hh
    cases hh
    refine hR M 0 y2 br Fe.rf hg ⟨fun l b => ?_, fun _ => rfl⟩
    obtain ⟨x, hx, vx⟩ := ha l b
    rw [hx]
    exact ⟨fun y hy => by cases hy; exact ⟨vx, b⟩, fun q => by cases q⟩
  have go : ∀ (f : Int64 → Int64 → Int64), (cd p = 143 ∨ cd p = 145) → (∀ x z w2, Vs1 y2 x → Vs1 w2 z → ∃ r, f y2 w2 = iL r ∧ ar (cd p) x z = bdd r ∧ -2000000000000000000 ≤ r ∧ r ≤ 2000000000000000000) → ∀ M1, M1 = g_wi M b 22 (g_mi M b 22 + 1) → qgME N n 9 M1 b (iB lv) 0 0 (fun v5 w5 M2 => pX9_bounded N 0 M2 b (f y2 w5) (iB lv) (fun v6 M3 => qgME N n 8 M3 b (iB lv) 0 v6 R)) := fun f c hF M1 e1 => by
    rw [if_pos c] at hh
    obtain ⟨g1, f1⟩ := hg.go e1
    have pp := tk_lt ho.2.2.1 hp (by omega)
    rcases thn_inv hh with ⟨x, q1, q2⟩ | ⟨p2, l2, v, q1, q2⟩
    · cases q2
    · have hx := PP_in ho.2.2.1 _ _ _ _ _ _ _ _ (by decide) q1 pp hl
      refine ih 8 d (p + 1) l a false p2 l2 v (by decide) (by decide) q1 n M1 _ lv br 0 0 hn (hf.tr f1) g1 pp hl ⟨fun q => absurd q (by decide), fun q => absurd q (by decide), fun q => absurd q (by decide)⟩ (fun M2 v5 w5 br1 f2 g2 P2 => ?_)
      exact EV_op ih (Or.inl rfl) q2 hn ((hf.tr f1).tr f2) g2 hx.2.1 hx.2.2.2 ha P2 (fun x z => hF x z w5) (fun M4 v4 w4 br4 f4 g4 P4 => hR M4 v4 w4 br4 ((f1.tr f2).tr f4) g4 P4)
  have plus : cd p = 143 → ∀ x z w2, Vs1 y2 x → Vs1 w2 z → ∃ r, y2 + w2 = iL r ∧ ar (cd p) x z = bdd r ∧ -2000000000000000000 ≤ r ∧ r ≤ 2000000000000000000 := fun c x z w2 v1 v2 => by
    refine ⟨x + z, by rw [v1.1, v2.1, iL_add], by rw [ar, if_pos c], ?_, ?_⟩ <;> have := v1.2 <;> have := v2.2 <;> omega
  have minus : cd p = 145 → ∀ x z w2, Vs1 y2 x → Vs1 w2 z → ∃ r, y2 - w2 = iL r ∧ ar (cd p) x z = bdd r ∧ -2000000000000000000 ≤ r ∧ r ≤ 2000000000000000000 := fun c x z w2 v1 v2 => by
    refine ⟨x - z, by rw [v1.1, v2.1, iL_sub], by rw [ar, if_neg (by omega), if_pos c], ?_, ?_⟩ <;> have := v1.2 <;> have := v2.2 <;> omega
  unfold pX9_sumOf_6
  rw [k2, show (43 : Int32) = iZ 43 from rfl, show (45 : Int32) = iZ 45 from rfl, sg, sg]
  refine ⟨k1, fun v1 hv1 v2 hv2 => ?_⟩
  subst hv1 hv2
  have t1 : (iZ (cd p) = iZ (100 + 43)) = (cd p = 143) := iZ_eq (by omega) (by omega) (by omega) (by omega)
  have t2 : (iZ (cd p) = iZ (100 + 45)) = (cd p = 145) := iZ_eq (by omega) (by omega) (by omega) (by omega)
  rw [t1]
  refine ⟨fun c v3 hv3 v4 hv4 => ?_, fun c v9 hv9 v10 hv10 => ?_⟩
  · subst hv3 hv4
    rw [t1]
    exact ⟨fun q => absurd c q, fun _ M1 e1 => go (· + ·) (Or.inl c) (plus c) M1 e1⟩
  · subst hv9 hv10
    rw [t2]
    refine ⟨fun q => stay (by omega), fun c2 v11 hv11 v12 hv12 => ?_⟩
    subst hv11 hv12
    rw [t1]
    exact ⟨fun _ M1 e1 => go (· - ·) (Or.inr c2) (minus c2) M1 e1, fun q => absurd q c⟩
theorem lz {w : Int64} : (lg_cmp w 0 = 0) = (w = 0) := propext (lg_cmp_eq w 0)
theorem EV_9 (ho : Eo N b base T cd vl o e M0) (ih : EVs N b base T cd vl o e M0 F) {d p l : Nat} {a : Dn} {q : Bool} {p1 l1 : Nat} {D : Dn} (hh : PP cd vl o (F + 1) 9 d p l a q = some (.inr (p1, l1, D))) {n : Nat} {M : gM} {R : Int32 → Int64 → gM → Prop} {lv br : Bool} {y2 : Int64} (hn : F + 4 ≤ n) (hf : Fe b M0 M) (hg : Gt M b (base + p) br) (hp : p ≤ T) (hl : l ≤ 50) (ha : lv = true → br = false → ∃ x, a e = some x ∧ Vs1 y2 x) (hR : ∀ M1 v w br2, Fe b M M1 → Gt M1 b (base + p1) br2 → Ep lv br (D e) (Vs1 w) br2 → R v w M1) : pX9_termOf_6 N (qgME N n) R M b (iB lv) y2 := by
  obtain ⟨k1, k2⟩ := codeAt_ok ho hf hg hp
  have k3 := cdr ho hp
  rw [PP9] at hh
  have stay : ¬ (cd p = 142 ∨ cd p = 147 ∨ cd p = 137) → R 0 y2 M := fun c => by
    rw [if_neg c] at hh
    cases hh
    refine hR M 0 y2 br Fe.rf hg ⟨fun l b => ?_, fun _ => rfl⟩
    obtain ⟨x, hx, vx⟩ := ha l b
    rw [hx]
    exact ⟨fun y hy => by cases hy; exact ⟨vx, b⟩, fun q => by cases q⟩
  have s42 : fX9_sign 42 = iZ 142 := by rw [show (42 : Int32) = iZ 42 from rfl, sg]; rfl
  have s47 : fX9_sign 47 = iZ 147 := by rw [show (47 : Int32) = iZ 47 from rfl, sg]; rfl
  have s37 : fX9_sign 37 = iZ 137 := by rw [show (37 : Int32) = iZ 37 from rfl, sg]; rfl
  have t1 : (iZ (cd p) = iZ 142) = (cd p = 142) := iZ_eq (by omega) (by omega) (by omega) (by omega)
  have t2 : (iZ (cd p) = iZ 147) = (cd p = 147) := iZ_eq (by omega) (by omega) (by omega) (by omega)
  have t3 : (iZ (cd p) = iZ 137) = (cd p = 137) := iZ_eq (by omega) (by omega) (by omega) (by omega)
  have go : (cd p = 142 ∨ cd p = 147 ∨ cd p = 137) → pX9_termOf_54 N (qgME N n) R M b (iB lv) y2 := fun c => by
    rw [if_pos c] at hh
    unfold pX9_termOf_54
    rw [k2, s42]
    refine ⟨k1, fun v1 hv1 M1 e1 => ?_⟩
    subst hv1
    obtain ⟨g1, f1⟩ := hg.go e1
    have pp := tk_lt ho.2.2.1 hp (by omega)
    rcases thn_inv hh with ⟨x, q1, q2⟩ | ⟨p2, l2, v, q1, q2⟩
    · cases q2
    · have hx := PP_in ho.2.2.1 _ _ _ _ _ _ _ _ (by decide) q1 pp hl
      refine ih 10 d (p + 1) l a false p2 l2 v (by decide) (by decide) q1 n M1 _ lv br 0 0 hn (hf.tr f1) g1 pp hl ⟨fun q => absurd q (by decide), fun q => absurd q (by decide), fun q => absurd q (by decide)⟩ (fun M2 v5 w2 br1 f2 g2 P2 v3 hv3 => ?_)
      subst hv3
      unfold Pq at P2
      rw [if_neg (by decide)] at P2
      have fin : ∀ (M3 : gM) (w3 : Int64) (Dv : Dn) (br3 : Bool) (Y : Int64), Fe b M2 M3 → Gt M3 b (base + p2) br3 → arD (cd p) a v e = arD (cd p) a Dv e → PP cd vl o F 9 d p2 l2 (arD (cd p) a v) false = some (.inr (p1, l1, D)) → Ep lv br (v e) (Vs1 w3) br3 → (∀ x z, Vs1 y2 x → Vs1 w3 z → ∃ r, Y = iL r ∧ ar (cd p) x z = bdd r ∧ -2000000000000000000 ≤ r ∧ r ≤ 2000000000000000000) → pX9_bounded N 0 M3 b Y (iB lv) (fun v6 M4 => qgME N n 10 M4 b (iB lv) 0 v6 R) := fun M3 w3 Dv br3 Y f3 g3 _ q3 P3 hY => EV_op ih (Or.inr rfl) q3 hn (((hf.tr f1).tr f2).tr f3) g3 hx.2.1 hx.2.2.2 ha P3 hY (fun M4 v4 w4 br4 f4 g4 P4 => hR M4 v4 w4 br4 (((f1.tr f2).tr f3).tr f4) g4 P4)
      -- what is told behind a division by naught
      have zero : cd p ≠ 142 → w2 = 0 → ∀ M3 br3, Fe b M2 M3 → Gt M3 b (base + p2) br3 → (br3 = (br1 || lv)) → pX9_termOf_121 N (qgME N n) R M3 b (iB lv) y2 (iZ (cd p)) 1 := fun c4 w0 M3 br3 f3 g3 b3 => by
        -- dead from here, or was
        have P3 : Ep lv br (arD (cd p) a v e) (fun _ => True) br3 := by
          refine ⟨fun l b0 => ?_, fun q => ?_⟩
          · have b4 : br3 = true := by rw [b3, l]; cases br1 <;> rfl
            obtain ⟨x, hx2, _⟩ := ha l b0
            have e4 : arD (cd p) a v e = none := by
              unfold arD; rw [hx2]
              cases hz : v e with
              | none => rfl
              | some z =>
                have vz := ((P2.1 l b0).1 z hz).1
                have z0 : z = 0 := by
                  have := vz.1; rw [w0, show (0 : Int64) = iL 0 from rfl, iL_eq (by omega) (by omega) (by have := vz.2; omega) (by have := vz.2; omega)] at this
                  exact this.symm
                show ar (cd p) x z = none
                rw [ar, if_neg (by omega), if_neg (by omega), if_neg c4, if_pos z0]
            rw [e4]
            exact ⟨fun y hy => (by cases hy), fun _ => b4⟩
          · have b1 := P2.2 q
            rw [b3, b1]
            rcases q with q | q
            · rw [q]; cases br <;> rfl
            · rw [q]; rfl
        have dead : lv = false ∨ br3 = true := by
          cases lv with
          | false => exact Or.inl rfl
          | true => right; rw [b3]; cases br1 <;> rfl
        have loop : ∀ Y, pX9_bounded N 0 M3 b Y (iB lv) (fun v6 M4 => qgME N n 10 M4 b (iB lv) 0 v6 R) := fun Y => by
          refine bnd_dead g3 dead (fun w M4 f4 g4 => ?_)
          refine ih 9 d p2 l2 (arD (cd p) a v) false p1 l1 D (by decide) (by decide) q2 n M4 R lv br3 0 w hn ((((hf.tr f1).tr f2).tr f3).tr f4) g4 hx.2.1 hx.2.2.2 ⟨fun q => absurd q (by decide), fun q => absurd q (by decide), fun _ l b1 => ?_⟩ (fun M5 v5 w5 br5 f5 g5 P5 => hR M5 v5 w5 br5 ((((f1.tr f2).tr f3).tr f4).tr f5) g5 ?_)
          · rcases dead with q | q
            · rw [q] at l; cases l
            · rw [q] at b1; cases b1
          · unfold Pq at P5
            rw [if_neg (by decide)] at P5
            exact P3.comb P5 (fun hv => PP_str _ _ _ _ _ _ _ _ _ (by decide) q2 hv)
        unfold pX9_termOf_121
        rw [s42, s47]
        intro u1 hu1
        subst hu1
        rw [t1]
        refine ⟨fun _ u2 hu2 => ?_, fun q => absurd q c4⟩
        subst hu2
        exact ⟨fun _ => ⟨by decide, loop _⟩, fun _ => ⟨by decide, loop _⟩⟩
      have live : (cd p = 142 ∨ w2 ≠ 0) → pX9_termOf_121 N (qgME N n) R M2 b (iB lv) y2 (iZ (cd p)) w2 := fun c4 => by
        unfold pX9_termOf_121
        rw [s42, s47]
        intro u1 hu1
        subst hu1
        rw [t1]
        have zn : ∀ z, w2 ≠ 0 → Vs1 w2 z → z ≠ 0 := fun z h1 h2 h3 => h1 (by rw [h2.1, h3]; rfl)
        refine ⟨fun c5 u2 hu2 => ?_, fun c5 => fin M2 w2 v br1 _ Fe.rf g2 rfl q2 P2 (fun x z v1 v2 => ?_)⟩
        · subst hu2
          rw [t2]
          have c6 : w2 ≠ 0 := by rcases c4 with c4 | c4; exact absurd c4 c5; exact c4
          refine ⟨fun c7 => ⟨c6, fin M2 w2 v br1 _ Fe.rf g2 rfl q2 P2 (fun x z v1 v2 => ?_)⟩, fun c7 => ⟨c6, fin M2 w2 v br1 _ Fe.rf g2 rfl q2 P2 (fun x z v1 v2 => ?_)⟩⟩
          · have b1 := v1.2
            have b2 := v2.2
            have b3 := @tmod_b x z
            refine ⟨x.tmod z, by rw [v1.1, v2.1, iL_rm (by omega) (by omega) (by omega) (by omega)], by rw [ar, if_neg (by omega), if_neg (by omega), if_neg c5, if_neg (zn z c6 v2), if_neg c7], ?_, ?_⟩ <;> split at b3 <;> omega
          · have b1 := v1.2
            have b2 := v2.2
            have b3 := @tdiv_b x z (zn z c6 v2)
            refine ⟨x.tdiv z, by rw [v1.1, v2.1, iL_div (by omega) (by omega) (by omega) (by omega)], by rw [ar, if_neg (by omega), if_neg (by omega), if_neg c5, if_neg (zn z c6 v2), if_pos c7], ?_, ?_⟩ <;> split at b3 <;> omega
        · have b1 := v1.2
          have b2 := v2.2
          have b3 := mul_b (x := x) (y := z) (B := 1000000000) (by omega) (by omega) (by omega) (by omega) (by omega)
          exact ⟨x * z, by rw [v1.1, v2.1, iL_mul], by rw [ar, if_neg (by omega), if_neg (by omega), if_pos c5], by omega, by omega⟩
      rw [t1, lz, g2.2]
      refine ⟨fun c4 => live (Or.inl c4), fun c4 => ⟨fun c5 => live (Or.inr c5), fun c5 => ⟨fun c6 M3 e3 => ?_, fun c6 => ⟨fun c7 M4 e4 => ?_, fun c7 M5 e5 => ?_⟩⟩⟩⟩
      · obtain ⟨g3, f3⟩ := g2.br (br2 := true) e3
        have : br1 = true := by rw [iB_0] at c6; cases br1 with | true => rfl | false => exact absurd rfl c6
        exact zero c4 c5 M3 true f3 g3 (by rw [this]; rfl)
      · obtain ⟨g3, f3⟩ := g2.br (br2 := false) e4
        rw [iB_0] at c6 c7
        exact zero c4 c5 M4 false f3 g3 (by rw [c6, c7]; rfl)
      · obtain ⟨g3, f3⟩ := g2.br (br2 := true) e5
        have : lv = true := by rw [iB_0] at c7; cases lv with | true => rfl | false => exact absurd rfl c7
        exact zero c4 c5 M5 true f3 g3 (by rw [this]; cases br1 <;> rfl)
  unfold pX9_termOf_6
  rw [k2, s42, s47, s37]
  refine ⟨k1, fun v1 hv1 v2 hv2 => ?_⟩
  subst hv1 hv2
  rw [t1]
  refine ⟨fun c => go (by omega), fun c v3 hv3 v4 hv4 => ?_⟩
  subst hv3 hv4
  rw [t2]
  refine ⟨fun c => go (by omega), fun c v5 hv5 v6 hv6 => ?_⟩
  subst hv5 hv6
  rw [t3]
  exact ⟨fun c => stay (by omega), fun c => go (by omega)⟩
end ME2
