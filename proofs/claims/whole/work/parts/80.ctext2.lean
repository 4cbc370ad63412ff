/-! Whole texts: the class's heads, its loop over the clauses. -/
section CT2
variable {N K a : Nat} {cd vl pl tk nb : Nat → Int} {T : Nat} {o : Bool}
theorem kind_ok {M : gM} {p : Nat} (ht : Ct M a cd vl pl tk nb T o) (h10 : g_mi M a 10 = iZ p) (hp : p ≤ T) : (o = false → EX2_lawKind M a ∧ fX2_lawKind M a = if hdS o (cd p) ∨ hdN o (cd p) then iZ (kc (cd p)) else -1) ∧ (o = true → EX2_orderKind M a ∧ fX2_orderKind M a = if hdS o (cd p) ∨ hdN o (cd p) then iZ (kc (cd p)) else -1) := by
  obtain ⟨b1, b2, b3, b4, b5, b6, b7, b8, b9, b10, _⟩ := ct_c ht hp
  have tz : ∀ t : Int, 0 ≤ t → t ≤ 300 → (iZ (tk p) = iZ t) = (tk p = t) := fun t h1 h2 => iZ_eq (by omega) (by omega) (by omega) (by omega)
  unfold TV at b6
  refine ⟨fun ho => ?_, fun ho => ?_⟩
  · subst ho
    unfold EX2_lawKind fX2_lawKind
    rw [h10, b2, b3]
    refine ⟨⟨b1, fun _ => b1⟩, ?_⟩
    have e11 : (iZ (tk p) = 11) = (tk p = 11) := tz 11 (by omega) (by omega)
    have e12 : (iZ (tk p) = 12) = (tk p = 12) := tz 12 (by omega) (by omega)
    by_cases c1 : tk p = 11
    · have c2 : cd p = 1 := by omega
      rw [if_pos (by rw [e11]; exact c1), if_pos (Or.inl (Or.inl ⟨rfl, c2⟩)), c2]; rfl
    · rw [if_neg (by rw [e11]; exact c1)]
      by_cases c3 : tk p = 12
      · have c2 : cd p = 2 := by omega
        rw [if_pos (by rw [e12]; exact c3), if_pos (Or.inr (Or.inl ⟨rfl, c2⟩)), c2]; rfl
      · rw [if_neg (by rw [e12]; exact c3), if_neg]
        rintro ((⟨_, z⟩ | ⟨z, _⟩) | (⟨_, z⟩ | ⟨z, _⟩))
        · omega
        · cases z
        · omega
        · cases z
  · subst ho
    unfold EX2_orderKind fX2_orderKind
    rw [h10, b2, b3]
    refine ⟨b1, ?_⟩
    have ez : ∀ t : Int, 0 ≤ t → t ≤ 300 → tk p ≠ t → ¬ iZ (tk p) = iZ t := fun t h1 h2 h3 z => h3 (by rw [tz t h1 h2] at z; exact z)
    by_cases c : hdS true (cd p) ∨ hdN true (cd p)
    · rw [if_pos c]
      have c2 : cd p = 18 ∨ cd p = 19 ∨ cd p = 20 ∨ cd p = 10 ∨ cd p = 21 := by
        rcases c with (⟨z, _⟩ | ⟨_, z⟩) | (⟨z, _⟩ | ⟨_, z⟩)
        · cases z
        · omega
        · cases z
        · omega
      rcases c2 with z | z | z | z | z
      · have e : tk p = 13 := by omega
        rw [e, z]; decide
      · have e : tk p = 14 := by omega
        rw [e, z]; decide
      · have e : tk p = 15 := by omega
        rw [e, z]; decide
      · have e : tk p = 3 := by omega
        rw [e, z]; decide
      · have e : tk p = 16 := by omega
        rw [e, z]; decide
    · rw [if_neg c]
      have n1 : tk p ≠ 3 := fun z => c (Or.inl (Or.inr ⟨rfl, by omega⟩))
      have n2 : tk p ≠ 13 := fun z => c (Or.inl (Or.inr ⟨rfl, by omega⟩))
      have n3 : tk p ≠ 14 := fun z => c (Or.inl (Or.inr ⟨rfl, by omega⟩))
      have n4 : tk p ≠ 15 := fun z => c (Or.inl (Or.inr ⟨rfl, by omega⟩))
      have n5 : tk p ≠ 16 := fun z => c (Or.inr (Or.inr ⟨rfl, by omega⟩))
      have m3 : ¬ iZ (tk p) = 3 := ez 3 (by omega) (by omega) n1
      rw [if_neg m3]
      have m13 : ¬ iZ (tk p) = 13 := ez 13 (by omega) (by omega) n2
      have m14 : ¬ iZ (tk p) = 14 := ez 14 (by omega) (by omega) n3
      have m15 : ¬ iZ (tk p) = 15 := ez 15 (by omega) (by omega) n4
      have m16 : ¬ iZ (tk p) = 16 := ez 16 (by omega) (by omega) n5
      rw [if_neg m13, if_neg m14, if_neg m15, if_neg m16]
      repeat' split
      all_goals rfl
theorem c_one {M : gM} {R : Int32 → gM → Prop} {p l nl len i : Nat} (hK : 500 ≤ K) (hi : i < 12) (ht : Ct M a cd vl pl tk nb T o) (hC : Cs M a p l nl len) (hp : p ≤ T) (hl : l ≤ 50) (hnl : nl ≤ l) (hs : len + (T - p) ≤ 450) (hR : ∀ M1 v, Cz M M1 a pl T p l nl len i o 3 (RC cd vl o p l) v → R v M1) : pX2_readClause N K M a (iZ i) R := by
  obtain ⟨kd1, kd2⟩ := kind_ok ht hC.1 hp
  -- a head that is none
  have bad : ¬ (hdS o (cd p) ∨ hdN o (cd p)) → pX2_fail N K M a (fun v3 M6 => (v3 = 0 ∨ v3 = 1) ∧ R v3 M6) := fun c => by
    have e : RC cd vl o p l = .inl p := by
      unfold RC
      rw [if_neg (fun z => c (Or.inl z)), if_neg (fun z => c (Or.inr z))]
    rw [e] at hR
    exact fail_ok ht hC.1 hp (fun M2 n2 e6 => ⟨Or.inl rfl, hR M2 0 ⟨n2.1.d, n2.2 nl len, n2.1.k, rfl, e6⟩⟩)
  -- behind a head
  have good : ∀ v1 : Int32, v1 = iZ (kc (cd p)) → (hdS o (cd p) ∨ hdN o (cd p)) → pX2_pass N K M a (fun M1 => vp_in (iZ i) 12 ∧ ∀ M2 : gM, M2 = g_wi M1 (a + 2 + 1) (iZ (i : Int)).toNatClampNeg v1 → vp_in (iZ i) 12 ∧ ∀ M3 : gM, M3 = g_wi M2 (a + 2 + 2) (iZ (i : Int)).toNatClampNeg 1 → vp_in (iZ i) 12 ∧ ∀ M4 : gM, M4 = g_wi M3 (a + 2 + 3) (iZ (i : Int)).toNatClampNeg (g_mi M3 (a + 2) 7) → ((v1 = 4 → pX2_readClause_80 N K R M4 a (iZ i)) ∧ (¬ v1 = 4 → ((¬ v1 = 6 → pX2_readSum N K M4 a 0 (fun v2 M5 => ((¬ v2 = 0 → pX2_readClause_103 N K R M5 a (iZ i)) ∧ (v2 = 0 → R 0 M5)))) ∧ (v1 = 6 → pX2_readClause_80 N K R M4 a (iZ i)))))) := fun v1 hv1 hc => by
    have hcp : cd p = 1 ∨ cd p = 2 ∨ cd p = 18 ∨ cd p = 19 ∨ cd p = 20 ∨ cd p = 10 ∨ cd p = 21 := by omega
    have pp := tk_lt ht.2.1 hp (by omega)
    refine pass_ok ht hC (by omega) (fun M1 n1 C1 => ?_)
    have i12 : vp_in (iZ (i : Int)) 12 := iZ_in (by omega) (by omega) (by omega)
    rw [iZ_cl (show i < 2147483648 by omega), show a + 2 + 1 = a + 3 from rfl, show a + 2 + 2 = a + 4 from rfl, show a + 2 + 3 = a + 5 from rfl]
    refine ⟨i12, fun M2 hM2 => ⟨i12, fun M3 hM3 => ⟨i12, fun M4 hM4 => ?_⟩⟩⟩
    obtain ⟨r1, r2, r3, r4, r5, r6⟩ := row_w (a := a) (i := i) (c0 := a + 3) (M := M1) (x := v1) (by omega) (by omega)
    rw [← hM2] at r1 r2 r3 r4 r5 r6
    obtain ⟨s1, s2, s3, s4, s5, s6⟩ := row_w (a := a) (i := i) (c0 := a + 4) (M := M2) (x := 1) (by omega) (by omega)
    rw [← hM3] at s1 s2 s3 s4 s5 s6
    have C3 := s4 _ _ _ _ (r4 _ _ _ _ C1)
    rw [C3.2.2.2.1] at hM4
    obtain ⟨t1, t2, t3, t4, t5, t6⟩ := row_w (a := a) (i := i) (c0 := a + 5) (M := M3) (x := iZ (len : Int)) (by omega) (by omega)
    rw [← hM4] at t1 t2 t3 t4 t5 t6
    have C4 := t4 _ _ _ _ C3
    have f4 : Fq9 a M M4 := ((n1.1.d.tr r1).tr s1).tr t1
    have w4 : Lw a nl len M M4 := (((n1.2 nl len).tr (r2 nl len) (Nat.le_refl _) (Nat.le_refl _)).tr (s2 nl len) (Nat.le_refl _) (Nat.le_refl _)).tr (t2 nl len) (Nat.le_refl _) (Nat.le_refl _)
    have k4 : Lk a i M M4 := ((n1.1.k.tr r3).tr s3).tr t3
    have ht4 := ht.fd f4
    have hH : Hd M4 a i len (cd p) 1 := ⟨by rw [t6 _ _ (by omega), s6 _ _ (by omega), r5, hv1], by rw [t6 _ _ (by omega), s5]; rfl, t5⟩
    -- without a sum
    have c80 : hdN o (cd p) → ¬ hdS o (cd p) → pX2_readClause_80 N K R M4 a (iZ i) := fun c1 c2 => by
      have e : RC cd vl o p l = cTimes cd vl o (p + 1) l (cd p) (kD 0) := by
        unfold RC
        rw [if_neg c2, if_pos c1]
      rw [e] at hR
      unfold pX2_readClause_80
      refine put_ok C4 (by omega) (fun M5 f5 w5 C5 u1 u2 => ?_)
      refine c_103 (k := 1) hK hi (ht4.fc f5) C5 pp hl hnl hs (f4.tr f5.d) (w4.tr w5 (Nat.le_refl _) (Nat.le_refl _)) (k4.tr f5.k) (Nat.le_refl _) (by omega) (Nat.le_refl _) (by omega) (hH.fc f5) ?_ (by omega) hR
      exact Cm_k (v := 0) u1 u2 (by omega) (by omega)
    have nS : cd p = 2 ∨ cd p = 21 → ¬ hdS o (cd p) := fun z y => by omega
    have eN : cd p = 2 ∨ cd p = 21 → hdN o (cd p) := fun z => by
      rcases hc with y | y
      · exact absurd y (nS z)
      · exact y
    have q4 : (v1 = 4) = (cd p = 21) := by
      rw [hv1]
      rcases hcp with z | z | z | z | z | z | z <;> rw [z] <;> decide
    have q6 : (v1 = 6) = (cd p = 2) := by
      rw [hv1]
      rcases hcp with z | z | z | z | z | z | z <;> rw [z] <;> decide
    rw [q4, q6]
    refine ⟨fun z => c80 (eN (Or.inr z)) (nS (Or.inr z)), fun z => ⟨fun z2 => ?_, fun z2 => c80 (eN (Or.inl z2)) (nS (Or.inl z2))⟩⟩
    have cS : hdS o (cd p) := by
      rcases hc with y | y
      · exact y
      · rcases y with ⟨_, y⟩ | ⟨_, y⟩
        · exact absurd y z2
        · exact absurd y z
    have e : RC cd vl o p l = cSum cd vl o p l := by unfold RC; rw [if_pos cS]
    rw [e] at hR
    unfold cSum at hR
    obtain ⟨res, hres⟩ := PPs (vl := vl) (o := o) (h := 6) (a := kD 0) (q := false) ht.2.1 ht.1 (by decide) pp hl
    rw [hres] at hR
    have hx := PP_in ht.2.1 _ _ _ _ _ _ _ _ (by decide) hres pp hl
    refine (CP_all 480).1 6 0 (p + 1) l (kD 0) false res (by decide) hres K M4 _ 0 0 len nl len l (by omega) ht4 C4 pp hl hnl (by omega) (by omega) (fun z => absurd z (by decide)) (by decide) (fun _ => ⟨rfl, rfl⟩) (fun M5 v5 c5 => ?_)
    obtain ⟨f5, w5, c6⟩ := c5
    cases res with
    | inl e =>
      obtain ⟨c7, c8⟩ := c6
      subst c7
      exact ⟨fun z => absurd rfl z, fun _ => hR M5 0 ⟨f4.tr f5.d, w4.tr w5 (Nat.le_refl _) (Nat.le_refl _), k4.tr f5.k, rfl, c8⟩⟩
    | inr y =>
      obtain ⟨c7, nl5, len5, C5, g1, g2, g3, g4, g5⟩ := c6
      subst c7
      have hy1 : p + 1 ≤ y.1 := hx.1
      have hy2 : y.1 ≤ T := hx.2.1
      have hy3 : y.2.1 ≤ 50 := hx.2.2.2
      have hy4 : l ≤ y.2.1 := hx.2.2.1
      refine ⟨fun _ => ?_, fun z => absurd z one0⟩
      exact c_103 hK hi (ht4.fc f5) C5 hy2 hy3 g2 hs (f4.tr f5.d) (w4.tr w5 (Nat.le_refl _) (Nat.le_refl _)) (k4.tr f5.k) g1 g3 hy4 (by omega) (hH.fc f5) g5 (by omega) hR
  unfold pX2_readClause
  rw [ht.2.2.2, iB_0]
  have neg1 : ∀ h : Int, ¬ iZ (kc h) = -1 := fun h => by
    unfold kc
    repeat' split
    all_goals decide
  refine ⟨fun ho => ?_, fun ho => ?_⟩
  · obtain ⟨e1, e2⟩ := kd1 ho
    refine ⟨e1, fun v1 hv1 => ?_⟩
    rw [e2] at hv1
    by_cases c : hdS o (cd p) ∨ hdN o (cd p)
    · rw [if_pos c] at hv1
      exact ⟨fun _ => good v1 hv1 c, fun z => absurd (hv1.symm.trans z) (neg1 _)⟩
    · rw [if_neg c] at hv1
      exact ⟨fun z => absurd hv1 z, fun _ => bad c⟩
  · have oo : o = true := by cases o with | true => rfl | false => exact absurd rfl ho
    obtain ⟨e1, e2⟩ := kd2 oo
    refine ⟨e1, fun v1 hv1 => ?_⟩
    rw [e2] at hv1
    by_cases c : hdS o (cd p) ∨ hdN o (cd p)
    · rw [if_pos c] at hv1
      exact ⟨fun _ => good v1 hv1 c, fun z => absurd (hv1.symm.trans z) (neg1 _)⟩
    · rw [if_neg c] at hv1
      exact ⟨fun z => absurd hv1 z, fun _ => bad c⟩
/-- a clause that stands stays -/
theorem Ce.keep {M M1 : gM} {i j nl nl1 len len1 : Nat} {c : Cl} (h : Ce M (a + 2) (Wm M a nl o) j c len) (hw : Lw a nl len M M1) (hk : Lk a i M M1) (hj : j ≠ i) (hn : nl ≤ nl1) (hl : len ≤ len1) : Ce M1 (a + 2) (Wm M1 a nl1 o) j c len1 := by
  obtain ⟨h1, h2, s, q, k, t, q2, k2, h3, h4, h5, h6, h7, h8, h9, h10, h11, h12⟩ := h
  obtain ⟨g1, g2, g3, g4⟩ := hk j hj
  have pq := h5.1
  have pq2 := h7.1
  exact ⟨g1.trans h1, g2.trans h2, s, q, k, t, q2, k2, g3.trans h3, g4.trans h4, Cmm.lw (a := a) (o := o) h5 hw (by omega) hn, ((hw.1 q h11).1).trans h6, Cmm.lw (a := a) (o := o) h7 hw (by omega) hn, ((hw.1 q2 h12).1).trans h8, h9, h10, by omega, by omega⟩
/-- what the class's memory shows behind a reading -/
def Cr (M M1 : gM) (a : Nat) (pl : Nat → Int) (nl len i : Nat) (o : Bool) (res : Nat ⊕ List (Nat × Cl)) (v : Int32) : Prop := Fq9 a M M1 ∧ match res with
  | .inl e => v = 0 ∧ g_mi M1 a 6 = iZ (pl e)
  | .inr cs => v = 1 ∧ ∃ nl1 len1 : Nat, (g_mi M1 a 6 = iZ (-1) ∧ LB M1 a nl1) ∧ len1 ≤ 460 ∧ nl1 ≤ 50 ∧ g_mi M1 (a + 2) 7 = iZ len1 ∧ g_mi M1 a 4 = iZ nl1 ∧ g_mi M1 (a + 2) 6 = iZ ((i + cs.length : Nat) : Int) ∧ i + cs.length ≤ 12 ∧ (∀ j c, j < i → Ce M (a + 2) (Wm M a nl o) j c len → Ce M1 (a + 2) (Wm M1 a nl1 o) j c len1) ∧ ∀ j c, cs[j]? = some c → Ce M1 (a + 2) (Wm M1 a nl1 o) (i + j) c.2 len1
theorem c_loop : ∀ (r n p l nl len i : Nat) (M : gM) (R : Int32 → gM → Prop), i + r = 12 → 500 ≤ K → r + 2 ≤ n → Ct M a cd vl pl tk nb T o → Cs M a p l nl len → p ≤ T → l ≤ 50 → nl ≤ l → len + (T - p) ≤ 400 + 3 * i → (∀ M1 v, Cr M M1 a pl nl len i o (RA cd vl o T r p l) v → R v M1) → qX2_read N K R n 0 M a (iZ i) := by
  intro r
  induction r with
  | zero =>
    intro n p l nl len i M R hir hK hn ht hC hp hl hnl hs hR
    obtain ⟨m, rfl⟩ : ∃ m, n = m + 1 := ⟨n - 1, by omega⟩
    rw [qX2_read]
    unfold pX2_read_43
    have e : i = 12 := by omega
    subst e
    refine ⟨fun _ => ?_, fun z => absurd (by decide) z⟩
    exact fail_ok ht hC.1 hp (fun M2 n2 e6 => ⟨Or.inl rfl, hR M2 0 ⟨n2.1.d, rfl, e6⟩⟩)
  | succ r ih =>
    intro n p l nl len i M R hir hK hn ht hC hp hl hnl hs hR
    obtain ⟨m, rfl⟩ : ∃ m, n = m + 1 := ⟨n - 1, by omega⟩
    rw [qX2_read]
    unfold pX2_read_43
    have c12 : ¬ (12 : Int32) ≤ iZ i := by rw [iZ_l12, iZ_le (by omega) (by omega) (by omega) (by omega)]; omega
    refine ⟨fun z => absurd z c12, fun _ => c_one hK (by omega) ht hC hp hl hnl (by omega) (fun M1 v1 c1 => ?_)⟩
    rw [RA] at hR
    obtain ⟨f1, w1, k1, c1⟩ := c1
    cases hrc : RC cd vl o p l with
    | inl e =>
      rw [hrc] at hR c1
      obtain ⟨c2, c3⟩ := c1
      subst c2
      exact ⟨fun z => absurd rfl z, fun _ => hR M1 0 ⟨f1, rfl, c3⟩⟩
    | inr y =>
      rw [hrc] at hR c1
      obtain ⟨c2, s6, nl1, len1, C1, g1, g2, g3, g4, g5, g6, g7, g8⟩ := c1
      subst c2
      have ht1 := ht.fd f1
      obtain ⟨b1, b2, b3, b4, b5, b6, b7, b8, b9, b10, _⟩ := ct_c ht1 g3
      have k24 : (iZ (tk y.1) = 24) = (y.1 = T) := by rw [iZ_l24, iZ_eq (by omega) (by omega) (by omega) (by omega)]; exact propext b7
      refine ⟨fun _ => ?_, fun z => absurd z one0⟩
      rw [C1.1, b2, b3, k24]
      dsimp only at hR
      refine ⟨b1, fun z => ?_, fun z => ?_⟩
      · refine pmark_ok (x := 59) ht1 C1 g3 (by omega) (by omega) (fun c M2 n2 C2 => ⟨fun _ => ?_, fun z => absurd z one0⟩) (fun c M2 n2 e6 => ⟨fun z => absurd rfl z, fun _ => ?_⟩)
        · rw [if_pos (by omega)] at hR
          have pp := tk_lt (p := y.1) ht.2.1 g3 (by omega)
          rw [iZ_s1]
          refine ih m (y.1 + 1) y.2.1 nl1 len1 (i + 1) M2 R (by omega) hK (by omega) (ht1.fc n2.1) C2 pp g4 g2 (by omega) (fun M3 v3 c3 => hR M3 v3 ?_)
          obtain ⟨f3, c4⟩ := c3
          have f13 := (f1.tr n2.1.d).tr f3
          cases hra : RA cd vl o T r (y.1 + 1) y.2.1 with
          | inl e => rw [hra] at c4; exact ⟨f13, c4⟩
          | inr cs =>
            rw [hra] at c4
            obtain ⟨d1, nl3, len3, d2, d3, d4, d5, d6, d7, d8, d9, d10⟩ := c4
            refine ⟨f13, d1, nl3, len3, d2, d3, d4, d5, d6, ?_, ?_, fun j c hj hc => ?_, fun j c hj => ?_⟩
            · rw [d7, List.length_cons]; congr 2; omega
            · rw [List.length_cons]; omega
            · refine d9 j c (by omega) ?_
              have := Ce.keep (i := i) (nl1 := nl1) (len1 := len1) hc w1 k1 (by omega) g1 g6
              exact Ce.keep (i := i) this (n2.2 nl1 len1) n2.1.k (by omega) (Nat.le_refl _) (Nat.le_refl _)
            · cases j with
              | zero =>
                cases hj
                refine d9 i y.2.2 (by omega) ?_
                have e9 : ∃ q, q ≠ i := ⟨i + 1, by omega⟩
                exact Ce.keep (i := i + 1) g8 (n2.2 nl1 len1) n2.1.k (by omega) (Nat.le_refl _) (Nat.le_refl _)
              | succ j =>
                have := d10 j c hj
                rw [show i + 1 + j = i + (j + 1) by omega] at this
                exact this
        · have lt : y.1 < T := by omega
          rw [if_neg (by omega), if_pos lt] at hR
          exact hR M2 0 ⟨f1.tr n2.1.d, rfl, e6⟩
      · rw [if_neg (by rw [z, ht.2.1]; decide), if_neg (by omega)] at hR
        refine hR M1 1 ⟨f1, rfl, nl1, len1, C1.2.2.2.2, by omega, by omega, C1.2.2.2.1, C1.2.2.1, s6, by show i + 1 ≤ 12; omega, fun j c hj hc => Ce.keep (i := i) hc w1 k1 (by omega) g1 g6, fun j c hj => ?_⟩
        cases j with
        | zero => cases hj; exact g8
        | succ j => simp at hj
end CT2
