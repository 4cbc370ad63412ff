/-! The class reads: all nodes. -/
/-- as Cp, with room for a step more -/
def Cx (M M1 : gM) (a : Nat) (pl : Nat → Int) (T p nl len l : Nat) (o : Bool) (ex : Nat) (res : Pr) (v : Int32) : Prop := Fc a M M1 ∧ Lw a nl len M M1 ∧ match res with
  | .inl e => v = 0 ∧ g_mi M1 a 6 = iZ (pl e)
  | .inr y => v = 1 ∧ ∃ nl1 len1, Cs M1 a y.1 y.2.1 nl1 len1 ∧ nl ≤ nl1 ∧ nl1 ≤ y.2.1 ∧ len ≤ len1 ∧ len1 + (T - y.1) ≤ len + (T - p) + ex ∧ Cmm M1 a nl1 o len len1 (y.2.1 - l) y.2.2
section CR3
variable {N a : Nat} {cd vl pl tk nb : Nat → Int} {T : Nat} {o : Bool} {F : Nat}
/-- the loops of tests: 1 (or), 3 (and) -/
theorem CP_tl (ih : CPs N a cd vl pl tk nb T o F) {h1 h2 d p l : Nat} {ac : Dn} {jn : Dn → Dn → Dn} {k : Int32} {res : Pr} (u : (h1 = 2 ∧ h2 = 1 ∧ k = 5 ∧ jn = orD) ∨ (h1 = 4 ∧ h2 = 3 ∧ k = 4 ∧ jn = andD)) (hs0 : cd p ≠ 0) (hh : thn (PP cd vl o F h1 d (p + 1) l ac false) (fun p2 l2 v => PP cd vl o F h2 d p2 l2 (jn ac v) false) = some res) {n : Nat} {M : gM} {R : Int32 → Int64 → gM → Prop} {len nl len0 l0 i : Nat} (hn : F + 4 ≤ n) (ht : Ct M a cd vl pl tk nb T o) (hC : Cs M a p l nl len) (hp : p ≤ T) (hl : l ≤ 50) (hnl : nl ≤ l) (hd : d ≤ 8) (hs : len + (T - p) ≤ 458) (k1 : len0 ≤ len) (k2 : l0 ≤ l) (k3 : Cmm M a nl o len0 len (l - l0) ac) (k4 : Bt ac) (hi : i ≤ p) (hR : ∀ M1 v, Cp M M1 a pl T p nl len len0 l0 o res v → R v 0 M1) : pX2_pass N 0 M a (fun M1 => pX6_put N 0 M1 (a + 2) 12 460 k 0 (fun v1 M2 => qgCP N n h1 M2 a (iZ d) 0 0 (fun v2 _ M3 => ((¬ v2 = 0 → pX6_jumpToHere N 0 M3 (a + 2) 12 460 v1 (fun M4 => qgCP N n h2 M4 a (iZ d) (iZ i + 1) 0 R)) ∧ (v2 = 0 → R 0 0 M3))))) := by
  have pp := tk_lt ht.2.1 hp hs0
  have nl1 : ¬ lpn h1 := by unfold lpn; omega
  have hlp : lpn h2 := by unfold lpn; omega
  refine pass_ok ht hC (by omega) (fun M1 n1 C1 => ?_)
  refine put_ok C1 (by omega) (fun M2 f2 w2 C2 s1 s2 => ?_)
  have fa := n1.1.tr f2
  have wa := (n1.2 nl len).tr w2 (Nat.le_refl _) (Nat.le_refl _)
  have ht2 := ht.fc fa
  rcases thn_inv hh with ⟨x, q1, q2⟩ | ⟨p2, l2, v, q1, q2⟩
  · refine ih h1 d (p + 1) l ac false _ (by omega) q1 n M2 _ 0 0 (len + 1) nl (len + 1) l hn ht2 C2 pp hl hnl hd (by omega) (fun z => absurd z nl1) (fun z => absurd z (by omega)) (fun _ => ⟨rfl, rfl⟩) (fun M3 v3 c3 => ?_)
    subst q2
    obtain ⟨f3, w3, c3, c4⟩ := c3
    subst c3
    exact ⟨fun z => absurd rfl z, fun _ => hR M3 0 ⟨fa.tr f3, wa.tr w3 (Nat.le_refl _) (by omega), rfl, c4⟩⟩
  · refine ih h1 d (p + 1) l ac false _ (by omega) q1 n M2 _ 0 0 (len + 1) nl (len + 1) l hn ht2 C2 pp hl hnl hd (by omega) (fun z => absurd z nl1) (fun z => absurd z (by omega)) (fun _ => ⟨rfl, rfl⟩) (fun M3 v3 c3 => ?_)
    have hx := PP_in ht.2.1 _ _ _ _ _ _ _ _ (by omega) q1 pp hl
    have hx3 : l ≤ l2 := hx.2.2.1
    have hp2 : p2 ≤ T := hx.2.1
    have hpp : p + 1 ≤ p2 := hx.1
    obtain ⟨f3, w3, c3, nl2, len2, C3, e1, e2, e3, e4, e5⟩ := c3
    subst c3
    dsimp only at C3 e2 e4 e5
    refine ⟨fun _ => ?_, fun z => absurd z one0⟩
    have bd := PP_bd ht.2.1 ht.vv _ _ _ _ _ _ _ _ _ _ (by omega) q1 pp hl (fun z => absurd z (by omega)) (fun z => absurd z (by omega))
    refine jump_ok C3 (by omega) (by omega) (fun M4 f4 w4 C4 s3 s4 s5 s6 s7 => ?_)
    have fb := (fa.tr f3).tr f4
    have wb := (wa.tr w3 (Nat.le_refl _) (by omega)).tr w4 e1 (Nat.le_refl _)
    have ca : Cmm M4 a nl2 o len0 len (l - l0) ac := Cmm.lw k3 wb (Nat.le_refl _) e1
    have cb : Cmm M4 a nl2 o (len + 1) len2 (l2 - l) v := Cm.cg e5 (fun j h1 h2 => ⟨congrFun s3 j, s5 j (by omega)⟩) (by rw [s6, s7]; exact fun w e h => h)
    have st4 : g_mi M4 (a + 7) len = k := by rw [s3, (w3.1 len (by omega)).1, s1]
    have cc : Cmm M4 a nl2 o len0 len2 (l2 - l0) (jn ac v) := by
      have hb := bd.1 (by omega)
      rcases u with ⟨_, _, u3, u4⟩ | ⟨_, _, u3, u4⟩
      · rw [u4]
        have := Cm_or ca cb (by rw [st4, u3]) s4 (fun w e h => h.1) k4
        rw [show l - l0 + (l2 - l) = l2 - l0 by omega] at this
        exact this
      · rw [u4]
        have := Cm_and ca cb (by rw [st4, u3]) s4 (fun w e h => h.1) k4
        rw [show l - l0 + (l2 - l) = l2 - l0 by omega] at this
        exact this
    have bj : Bt (jn ac v) := by
      have hb := bd.1 (by omega)
      rcases u with ⟨_, _, _, u4⟩ | ⟨_, _, _, u4⟩ <;> rw [u4]
      · exact Bt_or hb
      · exact Bt_and hb
    rw [iZ_s1]
    refine ih h2 d p2 l2 (jn ac v) false res (by omega) q2 n M4 R _ 0 len2 nl2 len0 l0 hn (ht.fc fb) C4 hp2 hx.2.2.2 e2 hd (by omega) (fun _ => ⟨by omega, by omega, cc, fun _ => bj, fun z => absurd z (by omega), i + 1, by omega, rfl⟩) (fun z => absurd z (by omega)) (fun z => absurd hlp z) (fun M5 v5 c5 => hR M5 v5 ?_)
    obtain ⟨f5, w5, c5⟩ := c5
    refine ⟨fb.tr f5, wb.tr w5 e1 (by omega), ?_⟩
    cases res with
    | inl e => exact c5
    | inr y =>
      obtain ⟨c5, nl3, len3, C5, g1, g2, g3, g4, g5⟩ := c5
      exact ⟨c5, nl3, len3, C5, by omega, g2, by omega, by omega, g5⟩
/-- a loop that ends -/
theorem CP_stay {M : gM} {p l nl len len0 l0 : Nat} {ac : Dn} {res : Pr} (hh : (some (.inr (p, l, ac)) : Option Pr) = some res) (hC : Cs M a p l nl len) (hnl : nl ≤ l) (k3 : Cmm M a nl o len0 len (l - l0) ac) : Cp M M a pl T p nl len len0 l0 o res 1 := by
  cases hh
  exact ⟨Fc.rf, Lw.rf, rfl, nl, len, hC, Nat.le_refl _, hnl, Nat.le_refl _, Nat.le_refl _, k3⟩
theorem tkz {M : gM} {p : Nat} {t c : Int} (ht : Ct M a cd vl pl tk nb T o) (hp : p ≤ T) (h : ∀ x y, TV x y → (y = t ↔ x = c)) (t0 : 0 ≤ t) (t1 : t ≤ 300) : (iZ (tk p) = iZ t) = (cd p = c) := by
  obtain ⟨b1, b2, b3, b4, b5, b6, b7, b8, b9, b10, _⟩ := ct_c ht hp
  rw [iZ_eq (by omega) (by omega) (by omega) (by omega)]
  exact propext (h _ _ b6)
/-- what is behind the nots -/
theorem CP_11 (ih : CPs N a cd vl pl tk nb T o F) {d p l : Nat} {ac : Dn} {q : Bool} {res : Pr} (hh : PP cd vl o (F + 1) 11 d p l ac q = some res) {n : Nat} {M : gM} {R : Int32 → Int64 → gM → Prop} {len nl : Nat} (hn : F + 4 ≤ n) (ht : Ct M a cd vl pl tk nb T o) (hC : Cs M a p l nl len) (hp : p ≤ T) (hl : l ≤ 50) (hnl : nl ≤ l) (hd : d ≤ 8) (ex : Nat) (hex : q = true → 1 ≤ ex) (hs : len + (T - p) + ex ≤ 458) (hR : ∀ (M1 : gM) (v : Int32), Cx M M1 a pl T p nl len l o ex res v → R v 0 M1) : pX2_readPlain_45 N (qgCP N n) R M a (iZ d) (iB q) := by
  rw [PP11] at hh
  -- the not behind it
  have nott : ∀ {M1 : gM} {p1 l1 nl1 len1 : Nat} {D : Dn}, res = .inr (p1, l1, if q then notD D else D) → Fc a M M1 → Lw a nl len M M1 → Cs M1 a p1 l1 nl1 len1 → nl ≤ nl1 → nl1 ≤ l1 → len ≤ len1 → len1 + (T - p1) ≤ len + (T - p) → p1 ≤ T → Cmm M1 a nl1 o len len1 (l1 - l) D → ((iB q = 0 → R 1 0 M1) ∧ (¬ iB q = 0 → pX6_put N 0 M1 (a + 2) 12 460 3 0 (fun _ M2 => R 1 0 M2))) := by
    intro M1 p1 l1 nl1 len1 D e f1 w1 C1 g1 g2 g3 g4 g5 g6
    rw [iB_0]
    refine ⟨fun z => hR M1 1 ⟨f1, w1, ?_⟩, fun z => ?_⟩
    · rw [e, z]
      exact ⟨rfl, nl1, len1, C1, g1, g2, g3, by omega, g6⟩
    · have z1 : q = true := by cases q with | true => rfl | false => exact absurd rfl z
      have := hex z1
      refine put_ok C1 (by omega) (fun M2 f2 w2 C2 s1 s2 => hR M2 1 ⟨f1.tr f2, w1.tr w2 g1 g3, ?_⟩)
      rw [e, z1]
      refine ⟨rfl, nl1, len1 + 1, C2, g1, g2, by omega, by dsimp only; omega, ?_⟩
      exact Cm_not (Cmm.lw g6 w2 (Nat.le_refl _) (Nat.le_refl _)) s1
  have bad : ∀ {M1 : gM} {e : Nat}, res = .inl e → Fc a M M1 → Lw a nl len M M1 → g_mi M1 a 6 = iZ (pl e) → R 0 0 M1 := fun e f1 w1 h6 => hR _ 0 ⟨f1, w1, by rw [e]; exact ⟨rfl, h6⟩⟩
  obtain ⟨m1, m2⟩ := mark_ok (x := 40) ht hC.1 hp (by omega) (by omega)
  unfold pX2_readPlain_45
  rw [show (40 : Int32) = iZ 40 from rfl, m2]
  refine ⟨m1, fun v1 hv1 => ?_⟩
  rw [hv1, iB_0]
  refine ⟨fun c => ?_, fun c => ?_⟩
  · have c1 : ¬ cd p = 140 := by simpa using c
    rw [if_neg c1] at hh
    rcases thn_inv hh with ⟨x, q1, q2⟩ | ⟨p2, l2, v, q1, q2⟩
    · refine ih 6 d p l ac false _ (by decide) q1 n M _ 0 0 len nl len l hn ht hC hp hl hnl hd (by omega) (fun z => absurd z (by decide)) (fun z => absurd z (by decide)) (fun _ => ⟨rfl, rfl⟩) (fun M1 v2 c2 => ?_)
      obtain ⟨f2, w2, c3, c4⟩ := c2
      subst c3
      exact ⟨fun z => absurd rfl z, fun _ => bad q2 f2 w2 c4⟩
    refine ih 6 d p l ac false _ (by decide) q1 n M _ 0 0 len nl len l hn ht hC hp hl hnl hd (by omega) (fun z => absurd z (by decide)) (fun z => absurd z (by decide)) (fun _ => ⟨rfl, rfl⟩) (fun M1 v2 c2 => ?_)
    have hx := PP_in ht.2.1 _ _ _ _ _ _ _ _ (by decide) q1 hp hl
    have bd := PP_bd ht.2.1 ht.vv _ _ _ _ _ _ _ _ _ _ (by decide) q1 hp hl (fun z => absurd z (by decide)) (fun z => absurd z (by decide))
    have hp2 : p2 ≤ T := hx.2.1
    have hpp : p ≤ p2 := hx.1
    have hx3 : l ≤ l2 := hx.2.2.1
    have hx4 : l2 ≤ 50 := hx.2.2.2
    obtain ⟨f1, w1, c3, nl1, len1, C1, e1, e2, e3, e4, e5⟩ := c2
    subst c3
    dsimp only at C1 e2 e4 e5
    have ht1 := ht.fc f1
    refine ⟨fun _ => ?_, fun z => absurd z one0⟩
    -- the second sum and the step
    have two : ∀ s, cd p2 = s → (s = 160 ∨ s = 162 ∨ s = 161) → pX2_pass N 0 M1 a (fun M3 => qgCP N n 6 M3 a (iZ d) 0 0 (fun v7 _ M4 => ((¬ v7 = 0 → pX6_put N 0 M4 (a + 2) 12 460 (iZ (ik s)) 0 (fun _ M5 => ((iB q = 0 → R 1 0 M5) ∧ (¬ iB q = 0 → pX6_put N 0 M5 (a + 2) 12 460 3 0 (fun _ M6 => R 1 0 M6))))) ∧ (v7 = 0 → R 0 0 M4)))) := by
      intro s hs1 hs2
      rw [if_pos (by omega), hs1] at q2
      have pp := tk_lt (p := p2) ht.2.1 hp2 (by omega)
      refine pass_ok ht1 C1 (by omega) (fun M3 n3 C3 => ?_)
      have f3 := f1.tr n3.1
      have w3 := w1.tr (n3.2 nl1 len1) e1 e3
      rcases thn_inv q2 with ⟨x, q3, q4⟩ | ⟨p4, l4, v4, q3, q4⟩
      · refine ih 6 d (p2 + 1) l2 ac false _ (by decide) q3 n M3 _ 0 0 len1 nl1 len1 l2 hn (ht.fc f3) C3 pp hx4 e2 hd (by omega) (fun z => absurd z (by decide)) (fun z => absurd z (by decide)) (fun _ => ⟨rfl, rfl⟩) (fun M4 v4 c4 => ?_)
        obtain ⟨f4, w4, c5, c6⟩ := c4
        subst c5
        exact ⟨fun z => absurd rfl z, fun _ => bad q4 (f3.tr f4) (w3.tr w4 e1 e3) c6⟩
      · refine ih 6 d (p2 + 1) l2 ac false _ (by decide) q3 n M3 _ 0 0 len1 nl1 len1 l2 hn (ht.fc f3) C3 pp hx4 e2 hd (by omega) (fun z => absurd z (by decide)) (fun z => absurd z (by decide)) (fun _ => ⟨rfl, rfl⟩) (fun M4 v5 c4 => ?_)
        have hy := PP_in ht.2.1 _ _ _ _ _ _ _ _ (by decide) q3 pp hx4
        have bd2 := PP_bd ht.2.1 ht.vv _ _ _ _ _ _ _ _ _ _ (by decide) q3 pp hx4 (fun z => absurd z (by decide)) (fun z => absurd z (by decide))
        have hp4 : p4 ≤ T := hy.2.1
        have hpp4 : p2 + 1 ≤ p4 := hy.1
        have hl4 : l2 ≤ l4 := hy.2.2.1
        obtain ⟨f4, w4, c5, nl4, len4, C4, g1, g2, g3, g4, g5⟩ := c4
        subst c5
        dsimp only at C4 g2 g4 g5
        refine ⟨fun _ => ?_, fun z => absurd z one0⟩
        refine put_ok C4 (by omega) (fun M5 f5 w5 C5 s1 s2 => ?_)
        have fb := (f3.tr f4).tr f5
        have wb := (w3.tr w4 e1 e3).tr w5 (by omega) (by omega)
        have ca : Cmm M5 a nl4 o len len1 (l2 - l) v := Cmm.lw e5 (((n3.2 nl1 len1).tr w4 (Nat.le_refl _) (Nat.le_refl _)).tr w5 g1 g3) (Nat.le_refl _) g1
        have cb : Cmm M5 a nl4 o len1 len4 (l4 - l2) v4 := Cmm.lw g5 w5 (Nat.le_refl _) (Nat.le_refl _)
        have cc : Cmm M5 a nl4 o len (len4 + 1) (l4 - l) (cpD s v v4) := by
          have := Cm_cp (o := s) ca cb (by omega) s1 (fun w e h => h.1) (bd.2 (by decide)) (bd2.2 (by decide))
          rw [show l2 - l + (l4 - l2) = l4 - l by omega] at this
          exact this
        exact nott (D := cpD s v v4) (by cases q4; rfl) fb wb C5 (by omega) g2 (by omega) (by omega) hp4 cc
    obtain ⟨m3, m4⟩ := mark_ok (x := 60) ht1 C1.1 hp2 (by omega) (by omega)
    obtain ⟨m5, m6⟩ := mark_ok (x := 62) ht1 C1.1 hp2 (by omega) (by omega)
    obtain ⟨m7, m8⟩ := mark_ok (x := 61) ht1 C1.1 hp2 (by omega) (by omega)
    rw [show (60 : Int32) = iZ 60 from rfl, show (62 : Int32) = iZ 62 from rfl, show (61 : Int32) = iZ 61 from rfl, m4, m6, m8]
    refine ⟨m3, fun v3 hv3 => ?_⟩
    rw [hv3, iB_0]
    refine ⟨fun z => ⟨m5, fun v4 hv4 => ?_⟩, fun z => two 160 (by simpa using z) (by omega)⟩
    rw [hv4, iB_0]
    refine ⟨fun z2 => ⟨m7, fun v5 hv5 => ?_⟩, fun z2 => two 162 (by simpa using z2) (by omega)⟩
    rw [hv5, iB_0]
    refine ⟨fun z3 => ?_, fun z3 => two 161 (by simpa using z3) (by omega)⟩
    have y1 : ¬ cd p2 = 100 + 60 := by simpa using z
    have y2 : ¬ cd p2 = 100 + 62 := by simpa using z2
    have y3 : ¬ cd p2 = 100 + 61 := by simpa using z3
    rw [if_neg (by omega)] at q2
    exact fail_ok ht1 C1.1 hp2 (fun M2 n2 e6 => ⟨Or.inl rfl, bad (e := p2) (by cases q2; rfl) (f1.tr n2.1) (w1.tr (n2.2 nl1 len1) e1 e3) e6⟩)
  · have c1 : cd p = 140 := by simpa using c
    rw [if_pos c1] at hh
    have pp := tk_lt ht.2.1 hp (by omega)
    have x8 : (iZ (d : Int) < 8) = (d < 8) := by rw [iZ_l8, iZ_lt (by omega) (by omega) (by omega) (by omega)]; exact propext ⟨fun _ => by omega, fun _ => by omega⟩
    rw [x8]
    refine ⟨fun c2 => ?_, fun c2 => ?_⟩
    · rw [if_neg (by omega)] at hh
      refine pass_ok ht hC (by omega) (fun M1 n1 C1 => ?_)
      rw [iZ_s1]
      rcases thn_inv hh with ⟨x, q1, q2⟩ | ⟨p2, l2, v, q1, q2⟩
      · refine ih 0 (d + 1) (p + 1) l ac false _ (by decide) q1 n M1 _ 0 0 len nl len l hn (ht.fc n1.1) C1 pp hl hnl (by omega) (by omega) (fun z => absurd z (by decide)) (fun z => absurd z (by decide)) (fun _ => ⟨rfl, rfl⟩) (fun M2 v2 c3 => ?_)
        obtain ⟨f2, w2, c4, c5⟩ := c3
        subst c4
        exact ⟨fun _ => bad q2 (n1.1.tr f2) ((n1.2 nl len).tr w2 (Nat.le_refl _) (Nat.le_refl _)) c5, fun z => absurd rfl z⟩
      · refine ih 0 (d + 1) (p + 1) l ac false _ (by decide) q1 n M1 _ 0 0 len nl len l hn (ht.fc n1.1) C1 pp hl hnl (by omega) (by omega) (fun z => absurd z (by decide)) (fun z => absurd z (by decide)) (fun _ => ⟨rfl, rfl⟩) (fun M2 v2 c3 => ?_)
        have hx := PP_in ht.2.1 _ _ _ _ _ _ _ _ (by decide) q1 pp hl
        have hp2 : p2 ≤ T := hx.2.1
        have hpp : p + 1 ≤ p2 := hx.1
        obtain ⟨f2, w2, c4, nl2, len2, C2, e1, e2, e3, e4, e5⟩ := c3
        subst c4
        dsimp only at C2 e2 e4 e5
        have fa := n1.1.tr f2
        have wa := (n1.2 nl len).tr w2 (Nat.le_refl _) (Nat.le_refl _)
        refine ⟨fun z => absurd z one0, fun _ => ?_⟩
        refine pmark_ok (x := 41) (ht.fc fa) C2 hp2 (by omega) (by omega) (fun z M3 n3 C3 => ⟨fun _ => ?_, fun z => absurd z one0⟩) (fun z M3 n3 e6 => ⟨fun z => absurd rfl z, fun _ => ?_⟩)
        · rw [if_pos (by omega)] at q2
          have := tk_lt (p := p2) ht.2.1 hp2 (by omega)
          exact nott (D := v) (by cases q2; rfl) (fa.tr n3.1) (wa.tr (n3.2 nl2 len2) e1 e3) C3 e1 e2 e3 (by omega) this (Cmm.lw e5 (n3.2 nl2 len2) (Nat.le_refl _) (Nat.le_refl _))
        · rw [if_neg (by omega)] at q2
          exact bad (e := p2) (by cases q2; rfl) (fa.tr n3.1) (wa.tr (n3.2 nl2 len2) e1 e3) e6
    · rw [if_pos (by omega)] at hh
      exact fail_ok ht hC.1 hp (fun M2 n2 e6 => ⟨Or.inl rfl, bad (e := p) (by cases hh; rfl) n2.1 (n2.2 nl len) e6⟩)
end CR3
