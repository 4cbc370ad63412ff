/-! The class reads: pieces; all nodes together. -/
section CR4
variable {N a : Nat} {cd vl pl tk nb : Nat → Int} {T : Nat} {o : Bool} {F : Nat}
/-- a number or a word is put, and passed -/
theorem CP_put {M M1 : gM} {p l nl len : Nat} {k x : Int32} {D : Dn} {R : Int32 → Int64 → gM → Prop} (ht : Ct M a cd vl pl tk nb T o) (n1 : Nx a M M1) (C1 : Cs M1 a p (l + 1) nl len) (hp : p < T) (hnl : nl ≤ l) (hs : len + (T - p) ≤ 458) (hD : ∀ M2, Lw a nl len M1 M2 → g_mi M2 (a + 7) len = k → g_mi M2 (a + 8) len = x → Cmm M2 a nl o len (len + 1) 1 D) (hR : ∀ M2 v, Cp M M2 a pl T p nl len len l o (.inr (p + 1, l + 1, D)) v → R v 0 M2) : pX6_put N 0 M1 (a + 2) 12 460 k x (fun _ M3 => pX2_pass N 0 M3 a (fun M4 => R 1 0 M4)) := by
  refine put_ok C1 (by omega) (fun M3 f3 w3 C3 s1 s2 => ?_)
  have f13 := n1.1.tr f3
  refine pass_ok (ht.fc f13) C3 hp (fun M4 n4 C4 => hR M4 1 ⟨f13.tr n4.1, ((n1.2 nl len).tr w3 (Nat.le_refl _) (Nat.le_refl _)).tr (n4.2 nl len) (Nat.le_refl _) (Nat.le_refl _), rfl, nl, len + 1, C4, Nat.le_refl _, ?_, ?_, ?_, ?_⟩)
  · show nl ≤ l + 1; omega
  · omega
  · show len + 1 + (T - (p + 1)) ≤ len + (T - p); omega
  · show Cmm M4 a nl o len (len + 1) (l + 1 - l) D
    rw [show l + 1 - l = 1 by omega]
    exact Cmm.lw (hD M3 w3 s1 s2) (n4.2 nl (len + 1)) (Nat.le_refl _) (Nat.le_refl _)
theorem CP_lookup {M M1 : gM} {p l nl len : Nat} {g : Int32} {res : Pr} {R : Int32 → Int64 → gM → Prop} (ht : Ct M a cd vl pl tk nb T o) (n1 : Nx a M M1) (C1 : Cs M1 a p (l + 1) nl len) (hp : p < T) (ho : o = true) (hl : l < 50) (hnl : nl ≤ l) (hs : len + (T - p) ≤ 458) (hg : (g = 1 ∧ cd p = 12) ∨ (g = 0 ∧ cd p = 17)) (hh : (if cd (p + 1) = 50 ∧ 0 ≤ vl (p + 1) ∧ vl (p + 1) ≤ lkm (cd p) then some (.inr (p + 2, l + 1, wD (cd p) (vl (p + 1)))) else some (.inl (p + 1)) : Option Pr) = some res) (hR : ∀ M2 v, Cp M M2 a pl T p nl len len l o res v → R v 0 M2) : pX2_readLookup N 0 M1 a g (fun v2 M2 => (v2 = 0 ∨ v2 = 1) ∧ R v2 0 M2) := by
  have ht1 := ht.fc n1.1
  unfold pX2_readLookup
  refine pass_ok ht1 C1 hp (fun M2 n2 C2 => ?_)
  have f2 := n1.1.tr n2.1
  have w2 : ∀ nl len, Lw a nl len M M2 := fun nl len => (n1.2 nl len).tr (n2.2 nl len) (Nat.le_refl _) (Nat.le_refl _)
  have ht2 := ht.fc f2
  obtain ⟨b1, b2, b3, b4, b5, b6, b7, b8, b9, b10, b11, b12⟩ := ct_c ht2 (show p + 1 ≤ T by omega)
  rw [C2.1, b2, b4]
  -- the number can't be
  have bad : ¬ (cd (p + 1) = 50 ∧ 0 ≤ vl (p + 1) ∧ vl (p + 1) ≤ lkm (cd p)) → pX2_fail N 0 M2 a (fun v1 M3 => (v1 = 0 ∨ v1 = 1) ∧ (v1 = 0 ∨ v1 = 1) ∧ R v1 0 M3) := fun c => by
    rw [if_neg c] at hh
    refine fail_ok ht2 C2.1 (show p + 1 ≤ T by omega) (fun M3 n3 e3 => ⟨Or.inl rfl, Or.inl rfl, hR M3 0 ⟨f2.tr n3.1, (w2 nl len).tr (n3.2 nl len) (Nat.le_refl _) (Nat.le_refl _), ?_⟩⟩)
    cases hh
    exact ⟨rfl, e3⟩
  have good : cd (p + 1) = 50 ∧ 0 ≤ vl (p + 1) ∧ vl (p + 1) ≤ lkm (cd p) → nb (p + 1) = vl (p + 1) → ((g_mi M2 a 4 < 50 → vp_in (g_mi M2 a 4) 50 ∧ ∀ M4 : gM, M4 = g_wi M2 (a + 9) (g_mi M2 a 4).toNatClampNeg (iZ (nb (p + 1))) → vp_in (g_mi M4 a 4) 50 ∧ (g = 0 ∨ g = 1) ∧ ∀ M5 : gM, M5 = g_wi M4 (a + 10) (g_mi M4 a 4).toNatClampNeg g → pX6_put N 0 M5 (a + 2) 12 460 2 (10 + g_mi M5 a 4) (fun _ M6 => ∀ M7 : gM, M7 = g_wi M6 a 4 (g_mi M6 a 4 + 1) → pX2_pass N 0 M7 a (fun M8 => ((1 : Int32) = 0 ∨ (1 : Int32) = 1) ∧ R 1 0 M8))) ∧ (¬ g_mi M2 a 4 < 50 → pX2_fail N 0 M2 a (fun v4 M9 => (v4 = 0 ∨ v4 = 1) ∧ (v4 = 0 ∨ v4 = 1) ∧ R v4 0 M9))) := fun c cn => by
    rw [if_pos c] at hh
    cases hh
    have p2 := tk_lt (p := p + 1) ht.2.1 (by omega) (by omega)
    have c9 : iZ (nl : Int) < 50 := by rw [iZ_l50, iZ_lt (by omega) (by omega) (by omega) (by omega)]; omega
    rw [C2.2.2.1, iZ_cl (show nl < 2147483648 by omega)]
    refine ⟨fun _ => ⟨iZ_in (by omega) (by omega) (by omega), fun M4 hM4 => ?_⟩, fun z => absurd c9 z⟩
    have e4 : g_mi M4 a 4 = iZ nl := by rw [hM4, mi_wi, if_neg (by omega)]; exact C2.2.2.1
    rw [e4, iZ_cl (show nl < 2147483648 by omega)]
    refine ⟨iZ_in (by omega) (by omega) (by omega), hg.elim (fun h => Or.inr h.1) (fun h => Or.inl h.1), fun M5 hM5 => ?_⟩
    have g5 : ∀ c j, g_mi M5 c j = if c = a + 10 ∧ j = nl then g else if c = a + 9 ∧ j = nl then iZ (nb (p + 1)) else g_mi M2 c j := fun c j => by rw [hM5, mi_wi, hM4, mi_wi]
    have C5 : Cs M5 a (p + 1) (l + 1) nl len := ⟨by rw [g5, if_neg (by omega), if_neg (by omega)]; exact C2.1, by rw [g5, if_neg (by omega), if_neg (by omega)]; exact C2.2.1, by rw [g5, if_neg (by omega), if_neg (by omega)]; exact C2.2.2.1, by rw [g5, if_neg (by omega), if_neg (by omega)]; exact C2.2.2.2.1, by rw [g5, if_neg (by omega), if_neg (by omega)]; exact C2.2.2.2.2.1, fun i hi => by rw [g5, if_neg (by omega), if_neg (by omega)]; exact C2.2.2.2.2.2 i hi⟩
    have f5 : Fc a M2 M5 := fun c j h1 h2 h3 h4 h5 h6 => by rw [g5, if_neg (by omega), if_neg (by omega)]
    have w5 : Lw a nl len M2 M5 := ⟨fun j hj => ⟨by rw [g5, if_neg (by omega), if_neg (by omega)], by rw [g5, if_neg (by omega), if_neg (by omega)]⟩, fun j hj => ⟨by rw [g5, if_neg (by omega), if_neg (by omega)], by rw [g5, if_neg (by omega), if_neg (by omega)]⟩⟩
    rw [C5.2.2.1, show (10 : Int32) = iZ ((10 : Nat) : Int) from rfl, iZ_add]
    refine put_all C5 (by omega) (fun M6 f6 w6 C6 s1 s2 M7 hM7 => ?_)
    have nx7 : Nx a M6 M7 := by rw [hM7]; exact Nx.wi (by decide)
    have lb7 : LB M7 a (nl + 1) := fun i hi => by
      rw [hM7, mi_wi, if_neg (by omega)]
      rcases Nat.lt_or_ge i nl with z | z
      · exact C6.2.2.2.2.2 i z
      · have ei : i = nl := by omega
        have : g_mi M6 (a + 9) nl = g_mi M5 (a + 9) nl := ((w6 (nl + 1)).2 nl (by omega)).1
        have kb : lkm (cd p) ≤ 999 := by unfold lkm; split <;> omega
        rw [ei, this, g5, if_neg (by omega), if_pos ⟨rfl, rfl⟩, cn, iZ_ti (by omega) (by omega)]
        omega
    have C7 : Cs M7 a (p + 1) (l + 1) (nl + 1) (len + 1) := ⟨by rw [hM7, mi_wi, if_neg (by omega)]; exact C6.1, by rw [hM7, mi_wi, if_neg (by omega)]; exact C6.2.1, by rw [hM7, mi_wi, if_pos ⟨rfl, rfl⟩, C6.2.2.1, iZ_s1], by rw [hM7, mi_wi, if_neg (by omega)]; exact C6.2.2.2.1, by rw [hM7, mi_wi, if_neg (by omega)]; exact C6.2.2.2.2.1, lb7⟩
    have f7 := ((f2.tr f5).tr f6).tr nx7.1
    have w7 : Lw a nl len M M7 := (((w2 nl len).tr w5 (Nat.le_refl _) (Nat.le_refl _)).tr (w6 nl) (Nat.le_refl _) (Nat.le_refl _)).tr (nx7.2 nl len) (Nat.le_refl _) (Nat.le_refl _)
    refine pass_ok (ht.fc f7) C7 (by omega) (fun M8 n8 C8 => ⟨Or.inr rfl, hR M8 1 ⟨f7.tr n8.1, w7.tr (n8.2 nl len) (Nat.le_refl _) (Nat.le_refl _), rfl, nl + 1, len + 1, C8, by omega, ?_, by omega, ?_, ?_⟩⟩)
    · show nl + 1 ≤ l + 1; omega
    · show len + 1 + (T - (p + 2)) ≤ len + (T - p); omega
    · show Cmm M8 a (nl + 1) o len (len + 1) (l + 1 - l) (wD (cd p) (vl (p + 1)))
      rw [show l + 1 - l = 1 by omega]
      have q9 : g_mi M8 (a + 9) nl = iZ (vl (p + 1)) := by
        rw [((n8.2 (nl + 1) 0).2 nl (by omega)).1, ((nx7.2 (nl + 1) 0).2 nl (by omega)).1]
        have : g_mi M6 (a + 9) nl = g_mi M5 (a + 9) nl := ((w6 (nl + 1)).2 nl (by omega)).1
        rw [this, g5, if_neg (by omega), if_pos ⟨rfl, rfl⟩, cn]
      have q10 : g_mi M8 (a + 10) nl = g := by
        rw [((n8.2 (nl + 1) 0).2 nl (by omega)).2, ((nx7.2 (nl + 1) 0).2 nl (by omega)).2]
        have : g_mi M6 (a + 10) nl = g_mi M5 (a + 10) nl := ((w6 (nl + 1)).2 nl (by omega)).2
        rw [this, g5, if_pos ⟨rfl, rfl⟩]
      refine Cm_w (c := 10 + nl) ?_ ?_ (by omega) (fun w e hw => ?_)
      · rw [((n8.2 0 (len + 1)).1 len (by omega)).1, ((nx7.2 0 (len + 1)).1 len (by omega)).1]; exact s1
      · rw [((n8.2 0 (len + 1)).1 len (by omega)).2, ((nx7.2 0 (len + 1)).1 len (by omega)).2, s2]; rfl
      · have := (hw.2.2 ho).2 nl (by omega)
        rw [q9, q10, iZ_ti (by omega) (by omega)] at this
        rw [this]
        rcases hg with ⟨h1, h2⟩ | ⟨h1, h2⟩
        · rw [if_neg (by rw [h1]; decide), h2]
        · rw [if_pos h1, h2]
  have n0 : (iZ (nb (p + 1)) < 0) = (nb (p + 1) < 0) := by rw [iZ_l0, iZ_lt (by omega) (by omega) (by omega) (by omega)]
  have n59 : ((59 : Int32) < iZ (nb (p + 1))) = (59 < nb (p + 1)) := by rw [iZ_l59, iZ_lt (by omega) (by omega) (by omega) (by omega)]
  have n999 : ((999 : Int32) < iZ (nb (p + 1))) = (999 < nb (p + 1)) := by rw [iZ_l999, iZ_lt (by omega) (by omega) (by omega) (by omega)]
  rw [n0, n59, n999]
  have hv := (ht.2.2.1 (p + 1) (by omega)).2.2.2.1
  unfold NB at b8
  rcases hg with ⟨h1, h2⟩ | ⟨h1, h2⟩
  · have e9 : lkm (cd p) = 59 := by unfold lkm; rw [if_pos h2]
    rw [e9] at bad good
    refine ⟨fun z => absurd (h1.symm.trans z) (by decide), fun _ => ⟨b1, fun z => bad (by omega), fun z => ⟨fun z2 => bad (by omega), fun z2 => good (by omega) (by omega)⟩⟩⟩
  · have e9 : lkm (cd p) = 999 := by unfold lkm; rw [if_neg (by omega)]
    rw [e9] at bad good
    refine ⟨fun _ => ⟨b1, fun z => bad (by omega), fun z => ⟨fun z2 => bad (by omega), fun z2 => good (by omega) (by omega)⟩⟩, fun z => absurd h1 z⟩
/-- a piece -/
theorem CP_10 (ih : CPs N a cd vl pl tk nb T o F) {d p l : Nat} {ac : Dn} {q : Bool} {res : Pr} (hh : PP cd vl o (F + 1) 10 d p l ac q = some res) {n : Nat} {M : gM} {R : Int32 → Int64 → gM → Prop} {len nl : Nat} (hn : F + 4 ≤ n) (ht : Ct M a cd vl pl tk nb T o) (hC : Cs M a p l nl len) (hp : p ≤ T) (hl : l ≤ 50) (hnl : nl ≤ l) (hd : d ≤ 8) (hs : len + (T - p) ≤ 458) (hR : ∀ M1 v, Cp M M1 a pl T p nl len len l o res v → R v 0 M1) : pX2_readPiece_0 N (qgCP N n) R M a (iZ d) := by
  rw [PP10] at hh
  have wl := wlo_b o
  have wh := whi_b o
  obtain ⟨b1, b2, b3, b4, b5, b6, b7, b8, b9, b10, b11, b12⟩ := ct_c ht hp
  have hv := (ht.2.2.1 p hp).2.2.2.1
  obtain ⟨m1, m2⟩ := mark_ok (x := 91) ht hC.1 hp (by omega) (by omega)
  have bad : ∀ {M1 : gM} {e : Nat}, (some (.inl e) : Option Pr) = some res → Fc a M M1 → Lw a nl len M M1 → g_mi M1 a 6 = iZ (pl e) → R 0 0 M1 := fun e f1 w1 h6 => by cases e; exact hR _ 0 ⟨f1, w1, rfl, h6⟩
  unfold pX2_readPiece_0
  rw [show (91 : Int32) = iZ 91 from rfl, m2]
  refine ⟨m1, fun v1 hv1 => ?_⟩
  rw [hv1, iB_0]
  refine ⟨fun c => ?_, fun c => ?_⟩
  · have c1 : ¬ cd p = 191 := by simpa using c
    rw [if_neg c1] at hh
    have l50 : (g_mi M a 11 < 50) = (l < 50) := by rw [hC.2.1, iZ_l50, iZ_lt (by omega) (by omega) (by omega) (by omega)]; exact propext ⟨fun _ => by omega, fun _ => by omega⟩
    rw [l50]
    refine ⟨fun c2 M1 hM1 => ?_, fun c2 => ?_⟩
    · have nx1 : Nx a M M1 := by rw [hM1]; exact Nx.wi (by decide)
      have C1 : Cs M1 a p (l + 1) nl len := ⟨by rw [hM1, mi_wi, if_neg (by omega)]; exact hC.1, by rw [hM1, mi_wi, if_pos ⟨rfl, rfl⟩, hC.2.1, iZ_s1], by rw [hM1, mi_wi, if_neg (by omega)]; exact hC.2.2.1, by rw [hM1, mi_wi, if_neg (by omega)]; exact hC.2.2.2.1, by rw [hM1, mi_wi, if_neg (by omega)]; exact hC.2.2.2.2.1, by rw [hM1]; exact LB.wi (by omega) hC.2.2.2.2.2⟩
      have ht1 := ht.fc nx1.1
      have t1 : g_mi M1 (a + 11) p = iZ (tk p) := (ct_c ht1 hp).2.2.1
      have t2 : g_mi M1 (a + 13) p = iZ (nb p) := (ct_c ht1 hp).2.2.2.1
      have t3 : g_mi M1 a 12 = iB o := ht1.2.2.2
      -- no piece
      have nop : ¬ ((cd p = 50 ∧ vl p ≤ 1000) ∨ (wlo o ≤ cd p ∧ cd p ≤ whi o)) → pX2_fail N 0 M1 a (fun v1 M2 => (v1 = 0 ∨ v1 = 1) ∧ R v1 0 M2) := fun c3 => by
        rw [if_neg c3] at hh
        exact fail_ok ht1 C1.1 hp (fun M2 n2 e2 => ⟨Or.inl rfl, bad hh (nx1.1.tr n2.1) ((nx1.2 nl len).tr (n2.2 nl len) (Nat.le_refl _) (Nat.le_refl _)) e2⟩)
      have num : cd p = 50 → vl p ≤ 1000 → pX6_put N 0 M1 (a + 2) 12 460 1 (iZ (nb p)) (fun v3 M3 => pX2_pass N 0 M3 a (fun M4 => R 1 0 M4)) := fun c3 c4 => by
        have pp := tk_lt ht.2.1 hp (by omega)
        rw [if_pos (Or.inl ⟨c3, c4⟩), if_neg (by omega), if_neg (by omega), if_pos c3] at hh
        have e1 : nb p = vl p := by unfold NB at b8; omega
        refine CP_put (D := kD (vl p)) ht nx1 C1 (by omega) hnl hs (fun M2 w2 s1 s2 => Cm_k s1 (by rw [s2, e1]) (by omega) (by omega)) (fun M2 v c => hR M2 v (by cases hh; exact c))
      have word : cd p ≠ 50 → wlo o ≤ cd p → cd p ≤ whi o → ¬ (o = true ∧ (cd p = 12 ∨ cd p = 17)) → tk p = cd p - 7 → pX6_put N 0 M1 (a + 2) 12 460 2 (iZ (tk p)) (fun v3 M3 => pX2_pass N 0 M3 a (fun M4 => R 1 0 M4)) := fun c3 c4 c5 c6 c7 => by
        have pp := tk_lt ht.2.1 hp (by omega)
        rw [if_pos (Or.inr ⟨c4, c5⟩), if_neg (by omega), if_neg c6, if_neg c3] at hh
        refine CP_put (D := wD (cd p) 0) ht nx1 C1 (by omega) hnl hs (fun M2 w2 s1 s2 => ?_) (fun M2 v c => hR M2 v (by cases hh; exact c))
        refine Cm_w (c := (tk p).toNat) s1 (by rw [s2]; congr 1; omega) (by omega) (fun w e hw => ?_)
        have e7 : (7 + (((tk p).toNat : Nat) : Int)) = cd p := by omega
        cases ho : o with
        | false =>
          have := hw.2.1 ho (tk p).toNat (by rw [ho] at c5; have : whi false = 13 := rfl; omega)
          rw [e7] at this
          exact this
        | true =>
          have h1 : wlo true = 12 := rfl
          have h2 : whi true = 17 := rfl
          rw [ho] at c4 c5
          have := (hw.2.2 ho).1 (tk p).toNat (by have : ¬ (cd p = 12 ∨ cd p = 17) := fun z => c6 ⟨ho, z⟩; omega) (by have : ¬ (cd p = 12 ∨ cd p = 17) := fun z => c6 ⟨ho, z⟩; omega)
          rw [e7] at this
          exact this
      have k23 : (iZ (tk p) = 23) = (cd p = 50) := by rw [iZ_l23]; exact tkz ht hp (fun x y h => by unfold TV at h; omega) (by omega) (by omega)
      have k5 : (iZ (tk p) = 5) = (cd p = 12) := by rw [iZ_l5]; exact tkz ht hp (fun x y h => by unfold TV at h; omega) (by omega) (by omega)
      have k10 : (iZ (tk p) = 10) = (cd p = 17) := by rw [iZ_l10]; exact tkz ht hp (fun x y h => by unfold TV at h; omega) (by omega) (by omega)
      have k0 : (iZ (tk p) < 0) = (tk p < 0) := by rw [iZ_l0, iZ_lt (by omega) (by omega) (by omega) (by omega)]
      have k6 : ((6 : Int32) < iZ (tk p)) = (6 < tk p) := by rw [iZ_l6, iZ_lt (by omega) (by omega) (by omega) (by omega)]
      have k6' : (iZ (tk p) < 6) = (tk p < 6) := by rw [iZ_l6, iZ_lt (by omega) (by omega) (by omega) (by omega)]
      have k9 : ((9 : Int32) < iZ (tk p)) = (9 < tk p) := by rw [iZ_l9, iZ_lt (by omega) (by omega) (by omega) (by omega)]
      have k1000 : ((1000 : Int32) < iZ (nb p)) = (1000 < nb p) := by rw [iZ_l1000, iZ_lt (by omega) (by omega) (by omega) (by omega)]
      unfold TV at b6
      unfold NB at b8
      have p116 : ¬ (o = true ∧ (cd p = 12 ∨ cd p = 17)) → pX2_readPiece_116 N (qgCP N n) R M1 a (iZ (tk p)) := fun c6 => by
        unfold pX2_readPiece_116
        rw [C1.1, b2, t2, t3, k23, k0, k6, k6', k9, k1000, iB_0]
        -- neither word
        have rest : ¬ (wlo o ≤ cd p ∧ cd p ≤ whi o) → ((¬ cd p = 50 → pX2_fail N 0 M1 a (fun v1 M1 => (v1 = 0 ∨ v1 = 1) ∧ R v1 0 M1)) ∧ (cd p = 50 → vp_in (iZ p) 401 ∧ ((1000 < nb p → pX2_fail N 0 M1 a (fun v2 M2 => (v2 = 0 ∨ v2 = 1) ∧ R v2 0 M2)) ∧ (¬ 1000 < nb p → pX6_put N 0 M1 (a + 2) 12 460 1 (iZ (nb p)) (fun v3 M3 => pX2_pass N 0 M3 a (fun M4 => R 1 0 M4)))))) := fun c3 => ⟨fun z => nop (by omega), fun z => ⟨b1, fun z2 => nop (by omega), fun z2 => num z (by omega)⟩⟩
        refine ⟨fun ho => ⟨fun z => absurd z (by omega), fun _ => ⟨fun z => rest ?_, fun z => ?_⟩⟩, fun ho => ⟨fun z => rest ?_, fun z => ⟨fun z2 => rest ?_, fun z2 => ?_⟩⟩⟩
        · have h1 : wlo o = 7 := by rw [ho]; rfl
          have h2 : whi o = 13 := by rw [ho]; rfl
          omega
        · have h1 : wlo o = 7 := by rw [ho]; rfl
          have h2 : whi o = 13 := by rw [ho]; rfl
          exact word (by omega) (by omega) (by omega) c6 (by omega)
        all_goals
          have oo : o = true := by cases o with | true => rfl | false => exact absurd rfl ho
          have h1 : wlo o = 12 := by rw [oo]; rfl
          have h2 : whi o = 17 := by rw [oo]; rfl
          have c7 : ¬ (cd p = 12 ∨ cd p = 17) := fun z => c6 ⟨oo, z⟩
        · omega
        · omega
        · exact word (by omega) (by omega) (by omega) c6 (by omega)
      rw [C1.1, b2, t1, t3, k5, k10, iB_0]
      refine ⟨b1, fun ho => p116 (fun z => by rw [ho] at z; cases z.1), fun ho => ?_⟩
      have oo : o = true := by cases o with | true => rfl | false => exact absurd rfl ho
      have h1 : wlo o = 12 := by rw [oo]; rfl
      have h2 : whi o = 17 := by rw [oo]; rfl
      refine ⟨fun z => ?_, fun z => ⟨fun z2 => p116 (by omega), fun z2 => ?_⟩⟩
      · have pp := tk_lt ht.2.1 hp (by omega)
        rw [if_pos (by omega), if_neg (by omega), if_pos ⟨oo, Or.inl z⟩] at hh
        exact CP_lookup ht nx1 C1 (by omega) oo c2 hnl hs (Or.inl ⟨rfl, z⟩) hh hR
      · have pp := tk_lt ht.2.1 hp (by omega)
        rw [if_pos (by omega), if_neg (by omega), if_pos ⟨oo, Or.inr z2⟩] at hh
        exact CP_lookup ht nx1 C1 (by omega) oo c2 hnl hs (Or.inr ⟨rfl, z2⟩) hh hR
    · have e1 : (some (.inl p) : Option Pr) = some res := by
        split at hh
        · rw [if_pos (by omega)] at hh; exact hh
        · exact hh
      exact fail_ok ht hC.1 hp (fun M2 n2 e2 => ⟨Or.inl rfl, bad e1 n2.1 (n2.2 nl len) e2⟩)
  · have c1 : cd p = 191 := by simpa using c
    rw [if_pos c1] at hh
    have pp := tk_lt ht.2.1 hp (by omega)
    have x8 : (iZ (d : Int) < 8) = (d < 8) := by rw [iZ_l8, iZ_lt (by omega) (by omega) (by omega) (by omega)]; exact propext ⟨fun _ => by omega, fun _ => by omega⟩
    rw [x8]
    refine ⟨fun c2 => ?_, fun c2 => ?_⟩
    · rw [if_neg (by omega)] at hh
      refine pass_ok ht hC (by omega) (fun M1 n1 C1 => ?_)
      rw [iZ_s1]
      rcases thn_inv hh with ⟨x, q1, q2⟩ | ⟨p2, l2, v, q1, q2⟩
      · refine ih 6 (d + 1) (p + 1) l ac false _ (by decide) q1 n M1 _ 0 0 len nl len l hn (ht.fc n1.1) C1 pp hl hnl (by omega) (by omega) (fun z => absurd z (by decide)) (by decide) (fun _ => ⟨rfl, rfl⟩) (fun M2 v2 c3 => ?_)
        obtain ⟨f2, w2, c4, c5⟩ := c3
        subst c4
        exact ⟨fun _ => bad (congrArg some q2.symm) (n1.1.tr f2) ((n1.2 nl len).tr w2 (Nat.le_refl _) (Nat.le_refl _)) c5, fun z => absurd rfl z⟩
      · refine ih 6 (d + 1) (p + 1) l ac false _ (by decide) q1 n M1 _ 0 0 len nl len l hn (ht.fc n1.1) C1 pp hl hnl (by omega) (by omega) (fun z => absurd z (by decide)) (by decide) (fun _ => ⟨rfl, rfl⟩) (fun M2 v2 c3 => ?_)
        have hx := PP_in ht.2.1 _ _ _ _ _ _ _ _ (by decide) q1 pp hl
        have hp2 : p2 ≤ T := hx.2.1
        have hpp : p + 1 ≤ p2 := hx.1
        obtain ⟨f2, w2, c4, nl2, len2, C2, e1, e2, e3, e4, e5⟩ := c3
        subst c4
        dsimp only at C2 e2 e4 e5
        have fa := n1.1.tr f2
        have wa := (n1.2 nl len).tr w2 (Nat.le_refl _) (Nat.le_refl _)
        refine ⟨fun z => absurd z one0, fun _ => ?_⟩
        refine pmark_ok (x := 93) (ht.fc fa) C2 hp2 (by omega) (by omega) (fun z M3 n3 C3 => ⟨fun z => absurd z one0, fun _ => ?_⟩) (fun z M3 n3 e6 => ⟨fun _ => ?_, fun z => absurd rfl z⟩)
        · rw [if_pos (by omega)] at q2
          have p3 := tk_lt (p := p2) ht.2.1 hp2 (by omega)
          cases q2
          refine hR M3 1 ⟨fa.tr n3.1, wa.tr (n3.2 nl2 len2) e1 e3, rfl, nl2, len2, C3, e1, e2, e3, ?_, Cmm.lw e5 (n3.2 nl2 len2) (Nat.le_refl _) (Nat.le_refl _)⟩
          dsimp only
          omega
        · rw [if_neg (by omega)] at q2
          exact bad q2 (fa.tr n3.1) (wa.tr (n3.2 nl2 len2) e1 e3) e6
    · rw [if_pos (by omega)] at hh
      exact fail_ok ht hC.1 hp (fun M2 n2 e6 => ⟨Or.inl rfl, bad hh n2.1 (n2.2 nl len) e6⟩)
end CR4
