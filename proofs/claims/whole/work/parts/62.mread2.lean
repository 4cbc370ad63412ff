/-! The reference reads: all nodes. -/
section MR3
variable {N K : Nat} {M : gM} {b : Nat} {cd vl pl : Nat → Int} {T p l : Nat} {o : Bool}
theorem leaf_ok {R : gM → Prop} (ht : Tk M b cd vl pl T) (hP : Pa M b p l) (hp : p ≤ T) (hl : l ≤ 50) (h5 : l ≠ 50 → ∀ M1, Fx b M M1 → Pa M1 b (p + 1) (l + 1) → R M1) (h50 : l = 50 → ∀ M1, Fx b M M1 → g_mi M1 b 21 = iZ (pl p) → R M1) : pX9_leaf N K M b R := by
  unfold pX9_leaf
  rw [hP.2.1]
  refine ⟨fun q M1 hM1 v1 hv1 => ?_, fun q => ?_⟩
  · have hl5 : l ≠ 50 := fun e => q (by rw [e]; rfl)
    have g21 : g_mi M1 b 21 = iZ (-1) := by rw [hM1, mi_wi, if_neg (by omega)]; exact hP.2.2
    rw [fine_1 g21] at hv1
    subst hv1
    refine ⟨fun q => absurd q one0, fun _ M2 hM2 => h5 hl5 M2 ?_ ⟨?_, ?_, ?_⟩⟩
    · rw [hM2, hM1]; exact (Fx.wi (by decide)).tr (Fx.wi (by decide))
    · rw [hM2, mi_wi, if_pos ⟨rfl, rfl⟩, hM1, mi_wi, if_neg (by omega), hP.1, iZ_s1]
    · rw [hM2, mi_wi, if_neg (by omega), hM1, mi_wi, if_pos ⟨rfl, rfl⟩, iZ_s1]
    · rw [hM2, mi_wi, if_neg (by omega)]; exact g21
  · have hl5 : l = 50 := by rw [iZ_l50, iZ_eq (by omega) (by omega) (by omega) (by omega)] at q; omega
    have hx := ht.2.2 p hp
    refine faults_ok ht hP.1 hP.2.2 hp (fun M1 f1 e1 _ M4 hM4 v2 hv2 => ?_)
    have g21 : g_mi M4 b 21 = iZ (pl p) := by rw [hM4, mi_wi, if_neg (by omega)]; exact e1
    rw [fine_0 (by rw [g21]; exact pl_ne hx.2.2.2.2.2.2.2.1 hx.2.2.2.2.2.2.2.2)] at hv2
    subst hv2
    refine ⟨fun _ => h50 hl5 M4 ?_ g21, fun q => absurd rfl q⟩
    rw [hM4]; exact f1.tr (Fx.wi (by decide))
theorem mnum_ok {R : gM → Prop} {x y : Int} (ht : Tk M b cd vl pl T) (hP : Pa M b p l) (hp : p ≤ T) (x1 : 0 ≤ x) (x2 : x ≤ 1000) (y1 : 0 ≤ y) (y2 : y ≤ 1000) (hy : cd p = 50 ∧ x ≤ vl p ∧ vl p ≤ y → ∀ M1, Fx b M M1 → Pa M1 b (p + 1) l → R M1) (hn : ¬ (cd p = 50 ∧ x ≤ vl p ∧ vl p ≤ y) → ∀ M1, Fx b M M1 → g_mi M1 b 21 = iZ (pl p) → R M1) : pX9_mustNumber N K M b (iZ x) (iZ y) R := by
  obtain ⟨b1, b2, b3, b4, b5⟩ := tk_c ht hp
  have hx := ht.2.2 p hp
  unfold pX9_mustNumber
  intro v1 hv1
  rw [fine_1 hP.2.2] at hv1
  subst hv1
  refine ⟨fun q => absurd q one0, fun _ => ?_⟩
  rw [hP.1, b2, b3, b4, iZ_l50, tk_eq ht hp (by omega) (by omega), lies_9 (by omega) (by omega) (by omega) (by omega) (by omega) (by omega)]
  have bad : ¬ (cd p = 50 ∧ x ≤ vl p ∧ vl p ≤ y) → pX9_faults N K M b (fun M2 => ∀ v3 : Int32, v3 = fX9_fine M2 b → ((v3 = 0 → R M2) ∧ (¬ v3 = 0 → ∀ M3 : gM, M3 = g_wi M2 b 19 (g_mi M2 b 19 + 1) → R M3))) := fun q => by
    refine faults_ok ht hP.1 hP.2.2 hp (fun M1 f1 e1 _ v3 hv3 => ?_)
    rw [fine_0 (by rw [e1]; exact pl_ne hx.2.2.2.2.2.2.2.1 hx.2.2.2.2.2.2.2.2)] at hv3
    subst hv3
    exact ⟨fun _ => hn q M1 f1 e1, fun q => absurd rfl q⟩
  refine ⟨b1, fun q => bad (fun w => q w.1), fun q v4 hv4 => ⟨fun q4 v5 hv5 => ?_, fun q4 => bad (fun w => ?_)⟩⟩
  · subst hv4
    rw [fine_1 hP.2.2] at hv5
    subst hv5
    have h6 : x ≤ vl p ∧ vl p ≤ y := by
      rw [iB_0] at q4
      simpa using q4
    refine ⟨fun q => absurd q one0, fun _ M4 hM4 => hy ⟨q, h6⟩ M4 (by rw [hM4]; exact Fx.wi (by decide)) ⟨?_, ?_, ?_⟩⟩
    · rw [hM4, mi_wi, if_pos ⟨rfl, rfl⟩, iZ_s1]
    · rw [hM4, mi_wi, if_neg (by omega)]; exact hP.2.1
    · rw [hM4, mi_wi, if_neg (by omega)]; exact hP.2.2
  · subst hv4
    rw [iB_0] at q4
    simp at q4
    exact absurd w.2.2 (by have := q4 w.2.1; omega)
theorem mnum_bad {R : gM → Prop} {x y : Int32} (hb : g_mi M b 21 ≠ iZ (-1)) (h : R M) : pX9_mustNumber N K M b x y R := by
  unfold pX9_mustNumber
  intro v1 hv1
  rw [fine_0 hb] at hv1
  subst hv1
  refine ⟨fun _ v2 hv2 => ?_, fun q => absurd rfl q⟩
  rw [fine_0 hb] at hv2
  subst hv2
  exact ⟨fun _ => h, fun q => absurd rfl q⟩
end MR3
section MR4
variable {N b : Nat} {cd vl pl : Nat → Int} {T : Nat} {o : Bool} {F : Nat}
/-- a part -/
theorem RP_10 (ih : RPs N b cd vl pl T o F) {d p l : Nat} {a : Dn} {q : Bool} {res : Pr} (hh : PP cd vl o (F + 1) 10 d p l a q = some res) {n : Nat} {M : gM} {R : Int32 → Int64 → gM → Prop} (hn : F + 6 ≤ n) (ht : Tk M b cd vl pl T) (hL : Lg M b o) (hP : Pa M b p l) (hp : p ≤ T) (hl : l ≤ 50) (hd : d ≤ 8) (hR : ∀ M1, Fx b M M1 → Po M1 b pl res → R 0 0 M1) : pX9_readPart_0 N (qgMP N n) R M b (iZ d) := by
  obtain ⟨b1, b2, b3, b4, b5⟩ := tk_c ht hp
  have hx := ht.2.2 p hp
  have w1 := wlo_b o
  have w2 := whi_b o
  unfold pX9_readPart_0
  intro v1 hv1
  rw [fine_1 hP.2.2] at hv1
  subst hv1
  refine ⟨fun _ => ?_, fun q => absurd q one0⟩
  rw [hP.1, b2, b3, b4, hL.1, hL.2.1, show (91 : Int32) = iZ 91 from rfl, sg, iZ_l50, iZ_l12, iZ_l17, iZ_l1000, iZ_l8, tk_eq ht hp (by omega) (by omega), tk_eq ht hp (by omega) (by omega), tk_eq ht hp (by omega) (by omega), iZ_lt (by omega) (by omega) (by omega) (by omega), iZ_lt (by omega) (by omega) (by omega) (by omega), iZ_le (by omega) (by omega) (by omega) (by omega), iZ_eq (by omega) (by omega) (by omega) (by omega)]
  refine ⟨b1, fun v2 hv2 => ?_⟩
  subst hv2
  rw [tk_eq ht hp (by omega) (by omega)]
  rw [PP10] at hh
  have flt : (some (Sum.inl p) : Option Pr) = some res → ∀ M1, Fx b M M1 → g_mi M1 b 21 = iZ (pl p) → R 0 0 M1 := fun e M1 f1 e1 => by cases e; exact hR M1 f1 e1
  have fa : (some (Sum.inl p) : Option Pr) = some res → pX9_faults N 0 M b (fun M1 => R 0 0 M1) := fun e => faults_ok ht hP.1 hP.2.2 hp (fun M1 f1 e1 _ => flt e M1 f1 e1)
  have l10 : ∀ M3, Fx b M M3 → g_mi M3 b 10 = iB o := fun M3 f3 => by rw [f3 _ _ (Or.inr (by decide))]; exact hL.2.2
  -- a number or a word without a number behind it
  have lf : ∀ Q : gM → Prop, (if l = 50 then some (Sum.inl p) else some (Sum.inr (p + 1, l + 1, if cd p = 50 then kD (vl p) else wD (cd p) 0)) : Option Pr) = some res → (∀ M1, Fx b M M1 → R 0 0 M1 → Q M1) → pX9_leaf N 0 M b Q := fun Q e hQ => by
    refine leaf_ok ht hP hp hl (fun q M1 f1 P1 => hQ M1 f1 ?_) (fun q M1 f1 e1 => hQ M1 f1 ?_)
    · rw [if_neg q] at e; cases e; exact hR M1 f1 P1
    · rw [if_pos q] at e; exact flt e M1 f1 e1
  refine ⟨fun c1 => ?_, fun c1 => ?_⟩
  · rw [if_neg (by omega)] at hh
    refine ⟨fun c2 => ⟨fun c3 => ?_, fun c3 => ⟨fun c4 => ?_, fun c4 => ?_⟩⟩, fun c2 => ⟨fun c3 => ?_, fun c3 => ⟨fun c4 => ?_, fun c4 => ⟨fun c5 => ?_, fun c5 => ?_⟩⟩⟩⟩
    · rw [if_neg (by omega)] at hh; exact fa hh
    · rw [if_neg (by omega)] at hh; exact fa hh
    · rw [if_pos (by omega)] at hh
      by_cases c5 : o = true ∧ (cd p = 12 ∨ cd p = 17)
      · rw [if_pos c5] at hh
        refine leaf_ok ht hP hp hl (fun q M3 f3 P3 => ?_) (fun q M3 f3 e3 => ?_)
        · rw [if_neg q] at hh
          rw [l10 M3 f3, c5.1]
          have p1 := tk_lt ht.2.1 hp (by omega)
          refine ⟨fun q => absurd q (by decide), fun _ => ⟨fun c6 => ⟨fun c7 => absurd c5.2 (by omega), fun c7 => ?_⟩, fun c6 => ?_⟩⟩
          · have e9 : lkm (cd p) = 999 := by unfold lkm; rw [if_neg c6]
            rw [e9] at hh
            refine mnum_ok (x := 0) (y := 999) (ht.fx f3) P3 p1 (by omega) (by omega) (by omega) (by omega) (fun w M4 f4 P4 => ?_) (fun w M4 f4 e4 => ?_)
            · rw [if_pos w] at hh; cases hh; exact hR M4 (f3.tr f4) P4
            · rw [if_neg w] at hh; cases hh; exact hR M4 (f3.tr f4) e4
          · have e9 : lkm (cd p) = 59 := by unfold lkm; rw [if_pos c6]
            rw [e9] at hh
            refine mnum_ok (x := 0) (y := 59) (ht.fx f3) P3 p1 (by omega) (by omega) (by omega) (by omega) (fun w M4 f4 P4 => ?_) (fun w M4 f4 e4 => ?_)
            · rw [if_pos w] at hh; cases hh
              have := hR M4 (f3.tr f4) P4
              exact ⟨fun _ => this, fun _ => this⟩
            · rw [if_neg w] at hh; cases hh
              have := hR M4 (f3.tr f4) e4
              exact ⟨fun _ => this, fun _ => this⟩
        · rw [if_pos q] at hh
          have hb : g_mi M3 b 21 ≠ iZ (-1) := by rw [e3]; exact pl_ne hx.2.2.2.2.2.2.2.1 hx.2.2.2.2.2.2.2.2
          have r0 := flt hh M3 f3 e3
          exact ⟨fun _ => r0, fun _ => ⟨fun _ => ⟨fun _ => r0, fun _ => mnum_bad hb r0⟩, fun _ => mnum_bad hb ⟨fun _ => r0, fun _ => r0⟩⟩⟩
      · rw [if_neg c5] at hh
        refine lf _ hh (fun M1 f1 r1 => ?_)
        rw [l10 M1 f1]
        refine ⟨fun _ => r1, fun q => ?_⟩
        rw [iB_0] at q
        have oo : o = true := by cases o with | true => rfl | false => exact absurd rfl q
        exact ⟨fun c6 => ⟨fun _ => r1, fun c7 => absurd ⟨oo, Or.inr c7⟩ c5⟩, fun c6 => absurd ⟨oo, Or.inl c6⟩ c5⟩
    · rw [if_pos (by omega), if_neg (show ¬ (o = true ∧ (cd p = 12 ∨ cd p = 17)) by omega)] at hh
      exact lf _ hh (fun M1 f1 r1 => ⟨fun _ => r1, fun _ => r1⟩)
    · rw [if_neg (by omega)] at hh; exact fa hh
    · rw [if_neg (by omega)] at hh; exact fa hh
    · exact absurd c2 (by omega)
  · rw [if_pos (by omega)] at hh
    have p1 := tk_lt ht.2.1 hp (by omega)
    refine ⟨fun c2 v3 hv3 => ?_, fun c2 => ?_⟩
    · rw [if_neg (show ¬ d = 8 by omega)] at hh
      rw [fine_1 hP.2.2] at hv3
      subst hv3
      refine ⟨fun _ M10 hM10 => ?_, fun q => absurd q one0⟩
      have f10 : Fx b M M10 := by rw [hM10]; exact Fx.wi (by decide)
      have P10 : Pa M10 b (p + 1) l := ⟨by rw [hM10, mi_wi, if_pos ⟨rfl, rfl⟩, iZ_s1], by rw [hM10, mi_wi, if_neg (by omega)]; exact hP.2.1, by rw [hM10, mi_wi, if_neg (by omega)]; exact hP.2.2⟩
      rw [iZ_s1]
      rcases thn_inv hh with ⟨x, q1, q2⟩ | ⟨p2, l2, v, q1, q2⟩
      · refine ih 6 (d + 1) (p + 1) l a false _ (by decide) q1 n M10 _ hn (ht.fx f10) (hL.fx f10) P10 p1 hl (by omega) (fun M1 f1 o1 v5 _ => ?_)
        have hxx := (PP_in ht.2.1 _ _ _ _ _ _ _ _ (by decide) q1 p1 hl).2
        subst q2
        exact must_bad (Po.bad ht hxx o1) (hR M1 (f10.tr f1) o1)
      · refine ih 6 (d + 1) (p + 1) l a false _ (by decide) q1 n M10 _ hn (ht.fx f10) (hL.fx f10) P10 p1 hl (by omega) (fun M1 f1 o1 v5 hv5 => ?_)
        have hxx := PP_in ht.2.1 _ _ _ _ _ _ _ _ (by decide) q1 p1 hl
        rw [show (93 : Int32) = iZ 93 from rfl, sg] at hv5
        subst hv5
        have o1 : Pa M1 b p2 l2 := o1
        refine must_ok (ht.fx (f10.tr f1)) o1 (show p2 ≤ T from hxx.2.1) (by omega) (by omega) (fun c M2 f2 P2 => ?_) (fun c M2 f2 e2 => ?_)
        · rw [if_pos (by omega)] at q2; cases q2; exact hR M2 ((f10.tr f1).tr f2) P2
        · rw [if_neg (by omega)] at q2; cases q2; exact hR M2 ((f10.tr f1).tr f2) e2
    · rw [if_pos (show d = 8 by omega)] at hh
      refine faults_ok ht hP.1 hP.2.2 hp (fun M1 f1 e1 _ v6 hv6 => ?_)
      rw [fine_0 (by rw [e1]; exact pl_ne hx.2.2.2.2.2.2.2.1 hx.2.2.2.2.2.2.2.2)] at hv6
      subst hv6
      exact ⟨fun q => absurd rfl q, fun _ => flt hh M1 f1 e1⟩
/-- what is behind the nots -/
theorem RP_11 (ih : RPs N b cd vl pl T o F) {d p l : Nat} {a : Dn} {q : Bool} {res : Pr} (hh : PP cd vl o (F + 1) 11 d p l a q = some res) {n : Nat} {M : gM} {R : Int32 → Int64 → gM → Prop} (hn : F + 6 ≤ n) (ht : Tk M b cd vl pl T) (hL : Lg M b o) (hP : Pa M b p l) (hp : p ≤ T) (hl : l ≤ 50) (hd : d ≤ 8) (hR : ∀ M1, Fx b M M1 → Po M1 b pl res → R 0 0 M1) : pX9_readPlain_2 N (qgMP N n) R M b (iZ d) 0 := by
  obtain ⟨b1, b2, b3, b4, b5⟩ := tk_c ht hp
  have hx := ht.2.2 p hp
  unfold pX9_readPlain_2
  refine ⟨fun _ v1 hv1 => ?_, fun q => absurd rfl q⟩
  rw [fine_1 hP.2.2] at hv1
  subst hv1
  refine ⟨fun _ => ?_, fun q => absurd q one0⟩
  rw [hP.1, b2, b3, show (40 : Int32) = iZ 40 from rfl, sg, iZ_l8, iZ_eq (show -2147483648 ≤ (d : Int) by omega) (by omega) (by omega) (by omega)]
  refine ⟨b1, fun v2 hv2 => ?_⟩
  subst hv2
  rw [tk_eq ht hp (by omega) (by omega)]
  rw [PP11] at hh
  have flt : (some (Sum.inl p) : Option Pr) = some res → ∀ M1, Fx b M M1 → g_mi M1 b 21 = iZ (pl p) → R 0 0 M1 := fun e M1 f1 e1 => by cases e; exact hR M1 f1 e1
  refine ⟨fun c1 => ?_, fun c1 => ?_⟩
  · rw [if_neg (by omega)] at hh
    rcases thn_inv hh with ⟨x, q1, q2⟩ | ⟨p2, l2, v, q1, q2⟩
    · refine ih 6 d p l a false _ (by decide) q1 n M _ hn ht hL hP hp hl hd (fun M1 f1 o1 v4 _ => ?_)
      have hxx := (PP_in ht.2.1 _ _ _ _ _ _ _ _ (by decide) q1 hp hl).2
      have hb := Po.bad ht hxx o1
      subst q2
      obtain ⟨m, rfl⟩ : ∃ m, n = m + 3 := ⟨n - 3, by omega⟩
      exact takes_bad hb ⟨fun q => absurd rfl q, fun _ v7 _ => takes_bad hb ⟨fun q => absurd rfl q, fun _ v10 _ => must_bad hb (R_badSum (R := fun _ _ M7 => R 0 0 M7) hb (hR M1 f1 o1) m)⟩⟩
    · refine ih 6 d p l a false _ (by decide) q1 n M _ hn ht hL hP hp hl hd (fun M1 f1 o1 v4 hv4 => ?_)
      have hxx := PP_in ht.2.1 _ _ _ _ _ _ _ _ (by decide) q1 hp hl
      have ht1 := ht.fx f1
      have hL1 := hL.fx f1
      have hp2 : p2 ≤ T := hxx.2.1
      have hl2 : l2 ≤ 50 := hxx.2.2.2
      have o1 : Pa M1 b p2 l2 := o1
      -- the second sum
      have two : (cd p2 = 160 ∨ cd p2 = 162 ∨ cd p2 = 161) → ∀ M2, Fx b M1 M2 → Pa M2 b (p2 + 1) l2 → qgMP N n 6 M2 b (iZ d) 0 (fun _ _ M3 => R 0 0 M3) := fun c M2 f2 P2 => by
        rw [if_pos c] at q2
        have pp3 := tk_lt (p := p2) ht.2.1 hp2 (by omega)
        rcases thn_inv q2 with ⟨x, q3, q4⟩ | ⟨p3, l3, v3, q3, q4⟩
        · refine ih 6 d (p2 + 1) l2 a false _ (by decide) q3 n M2 _ hn (ht1.fx f2) (hL1.fx f2) P2 pp3 hl2 hd (fun M3 f3 o3 => ?_)
          subst q4
          exact hR M3 ((f1.tr f2).tr f3) o3
        · refine ih 6 d (p2 + 1) l2 a false _ (by decide) q3 n M2 _ hn (ht1.fx f2) (hL1.fx f2) P2 pp3 hl2 hd (fun M3 f3 o3 => ?_)
          cases q4
          exact hR M3 ((f1.tr f2).tr f3) o3
      rw [show (60 : Int32) = iZ 60 from rfl, sg] at hv4
      subst hv4
      refine takes_ok ht1 o1 hp2 (by omega) (by omega) (fun c M2 f2 P2 => ⟨fun _ => two (by omega) M2 f2 P2, fun q => absurd q one0⟩) (fun c => ⟨fun q => absurd rfl q, fun _ v7 hv7 => ?_⟩)
      rw [show (62 : Int32) = iZ 62 from rfl, sg] at hv7
      subst hv7
      refine takes_ok ht1 o1 hp2 (by omega) (by omega) (fun c M2 f2 P2 => ⟨fun _ => two (by omega) M2 f2 P2, fun q => absurd q one0⟩) (fun c2 => ⟨fun q => absurd rfl q, fun _ v10 hv10 => ?_⟩)
      rw [show (61 : Int32) = iZ 61 from rfl, sg] at hv10
      subst hv10
      refine must_ok ht1 o1 hp2 (by omega) (by omega) (fun c M2 f2 P2 => two (by omega) M2 f2 P2) (fun c3 M2 f2 e2 => ?_)
      rw [if_neg (by omega)] at q2
      cases q2
      have hx2 := ht.2.2 p2 hp2
      have hb : g_mi M2 b 21 ≠ iZ (-1) := by rw [e2]; exact pl_ne hx2.2.2.2.2.2.2.2.1 hx2.2.2.2.2.2.2.2.2
      obtain ⟨m, rfl⟩ : ∃ m, n = m + 3 := ⟨n - 3, by omega⟩
      exact R_badSum (R := fun _ _ M7 => R 0 0 M7) hb (hR M2 (f1.tr f2) e2) m
  · rw [if_pos (by omega)] at hh
    have p1 := tk_lt ht.2.1 hp (by omega)
    refine ⟨fun c2 v3 hv3 => ?_, fun c2 => ?_⟩
    · rw [if_neg (show ¬ d = 8 by omega)] at hh
      rw [fine_1 hP.2.2] at hv3
      subst hv3
      refine ⟨fun _ M10 hM10 => ?_, fun q => absurd q one0⟩
      have f10 : Fx b M M10 := by rw [hM10]; exact Fx.wi (by decide)
      have P10 : Pa M10 b (p + 1) l := ⟨by rw [hM10, mi_wi, if_pos ⟨rfl, rfl⟩, iZ_s1], by rw [hM10, mi_wi, if_neg (by omega)]; exact hP.2.1, by rw [hM10, mi_wi, if_neg (by omega)]; exact hP.2.2⟩
      rw [iZ_s1]
      rcases thn_inv hh with ⟨x, q1, q2⟩ | ⟨p2, l2, v, q1, q2⟩
      · refine ih 0 (d + 1) (p + 1) l a false _ (by decide) q1 n M10 _ hn (ht.fx f10) (hL.fx f10) P10 p1 hl (by omega) (fun M1 f1 o1 v5 _ => ?_)
        have hxx := (PP_in ht.2.1 _ _ _ _ _ _ _ _ (by decide) q1 p1 hl).2
        subst q2
        exact must_bad (Po.bad ht hxx o1) (hR M1 (f10.tr f1) o1)
      · refine ih 0 (d + 1) (p + 1) l a false _ (by decide) q1 n M10 _ hn (ht.fx f10) (hL.fx f10) P10 p1 hl (by omega) (fun M1 f1 o1 v5 hv5 => ?_)
        have hxx := PP_in ht.2.1 _ _ _ _ _ _ _ _ (by decide) q1 p1 hl
        rw [show (41 : Int32) = iZ 41 from rfl, sg] at hv5
        subst hv5
        have o1 : Pa M1 b p2 l2 := o1
        refine must_ok (ht.fx (f10.tr f1)) o1 (show p2 ≤ T from hxx.2.1) (by omega) (by omega) (fun c M2 f2 P2 => ?_) (fun c M2 f2 e2 => ?_)
        · rw [if_pos (by omega)] at q2; cases q2; exact hR M2 ((f10.tr f1).tr f2) P2
        · rw [if_neg (by omega)] at q2; cases q2; exact hR M2 ((f10.tr f1).tr f2) e2
    · rw [if_pos (show d = 8 by omega)] at hh
      refine faults_ok ht hP.1 hP.2.2 hp (fun M1 f1 e1 _ v6 hv6 => ?_)
      rw [fine_0 (by rw [e1]; exact pl_ne hx.2.2.2.2.2.2.2.1 hx.2.2.2.2.2.2.2.2)] at hv6
      subst hv6
      exact ⟨fun q => absurd rfl q, fun _ => flt hh M1 f1 e1⟩
theorem RP_all : ∀ F, RPs N b cd vl pl T o F := by
  intro F
  induction F with
  | zero => intro h d p l a q res _ hh; cases hh
  | succ F ih =>
    intro h d p l a q res h11 hh n M R hn ht hL hP hp hl hd hR
    obtain ⟨m, rfl⟩ : ∃ m, n = m + 1 := ⟨n - 1, by omega⟩
    have hm : F + 6 ≤ m := by omega
    have stay : some (Sum.inr (p, l, a)) = some res → R 0 0 M := fun e => by cases e; exact hR M Fx.rf hP
    match h, h11, hh with
    | 0, _, hh =>
      rw [PP0] at hh
      exact RP_two ih (f := id) (Or.inl rfl) (Or.inl rfl) hh hm ht hL hP hp hl hd hR
    | 1, _, hh =>
      rw [PP1] at hh
      show pX9_readTest_5 N (qgMP N m) R M b (iZ d)
      refine takes_ok (c := 4) ht hP hp (by omega) (by omega) (fun c M1 f1 P1 => ⟨fun q => absurd q one0, fun _ => ?_⟩) (fun c => ⟨fun _ => ?_, fun q => absurd rfl q⟩)
      · rw [if_pos c] at hh
        exact RP_two ih (f := orD a) (Or.inl rfl) (Or.inl rfl) hh hm (ht.fx f1) (hL.fx f1) P1 (tk_lt ht.2.1 hp (by omega)) hl hd (fun M2 f2 o2 => hR M2 (f1.tr f2) o2)
      · rw [if_neg c] at hh; exact stay hh
    | 2, _, hh =>
      rw [PP2] at hh
      exact RP_two ih (f := id) (Or.inr (Or.inl rfl)) (Or.inr (Or.inl rfl)) hh hm ht hL hP hp hl hd hR
    | 3, _, hh =>
      rw [PP3] at hh
      show pX9_readBoth_5 N (qgMP N m) R M b (iZ d)
      refine takes_ok (c := 5) ht hP hp (by omega) (by omega) (fun c M1 f1 P1 => ⟨fun q => absurd q one0, fun _ => ?_⟩) (fun c => ⟨fun _ => ?_, fun q => absurd rfl q⟩)
      · rw [if_pos c] at hh
        exact RP_two ih (f := andD a) (Or.inr (Or.inl rfl)) (Or.inr (Or.inl rfl)) hh hm (ht.fx f1) (hL.fx f1) P1 (tk_lt ht.2.1 hp (by omega)) hl hd (fun M2 f2 o2 => hR M2 (f1.tr f2) o2)
      · rw [if_neg c] at hh; exact stay hh
    | 4, _, hh =>
      rw [PP4] at hh
      exact ih 5 d p l a false res (by decide) hh m M R hm ht hL hP hp hl hd hR
    | 5, _, hh =>
      rw [PP5] at hh
      show pX9_readPlain_2 N (qgMP N m) R M b (iZ d) 1
      unfold pX9_readPlain_2
      refine ⟨fun q => absurd q one0, fun _ => takes_ok (c := 6) ht hP hp (by omega) (by omega) (fun c M1 f1 P1 => ?_) (fun c => ?_)⟩
      · rw [if_pos c] at hh
        exact ih 5 d (p + 1) l a (!q) res (by decide) hh m M1 R hm (ht.fx f1) (hL.fx f1) P1 (tk_lt ht.2.1 hp (by omega)) hl hd (fun M2 f2 o2 => hR M2 (f1.tr f2) o2)
      · rw [if_neg c] at hh
        exact ih 11 d p l a q res (by decide) hh m M R hm ht hL hP hp hl hd hR
    | 6, _, hh =>
      rw [PP6] at hh
      exact RP_two ih (f := id) (Or.inr (Or.inr (Or.inl rfl))) (Or.inr (Or.inr (Or.inl rfl))) hh hm ht hL hP hp hl hd hR
    | 7, _, hh =>
      rw [PP7] at hh
      show pX9_readSum_5 N (qgMP N m) R M b (iZ d)
      intro v1 hv1
      rw [show (43 : Int32) = iZ 43 from rfl, sg] at hv1
      subst hv1
      have go : (cd p = 143 ∨ cd p = 145) → ∀ M1, Fx b M M1 → Pa M1 b (p + 1) l → qgMP N m 8 M1 b (iZ d) 0 (fun _ _ M2 => qgMP N m 7 M2 b (iZ d) 0 R) := fun c M1 f1 P1 => by
        rw [if_pos c] at hh
        exact RP_two ih (f := arD (cd p) a) (Or.inr (Or.inr (Or.inl rfl))) (Or.inr (Or.inr (Or.inl rfl))) hh hm (ht.fx f1) (hL.fx f1) P1 (tk_lt ht.2.1 hp (by omega)) hl hd (fun M2 f2 o2 => hR M2 (f1.tr f2) o2)
      refine takes_ok ht hP hp (by omega) (by omega) (fun c M1 f1 P1 => ⟨fun _ => go (by omega) M1 f1 P1, fun q => absurd q one0⟩) (fun c => ⟨fun q => absurd rfl q, fun _ v4 hv4 => ?_⟩)
      rw [show (45 : Int32) = iZ 45 from rfl, sg] at hv4
      subst hv4
      refine takes_ok ht hP hp (by omega) (by omega) (fun c M1 f1 P1 => ⟨fun q => absurd q one0, fun _ => go (by omega) M1 f1 P1⟩) (fun c2 => ⟨fun _ => ?_, fun q => absurd rfl q⟩)
      rw [if_neg (by omega)] at hh; exact stay hh
    | 8, _, hh =>
      rw [PP8] at hh
      exact RP_two ih (f := id) (Or.inr (Or.inr (Or.inr rfl))) (Or.inr (Or.inr (Or.inr rfl))) hh hm ht hL hP hp hl hd hR
    | 9, _, hh =>
      rw [PP9] at hh
      show pX9_readTerm_5 N (qgMP N m) R M b (iZ d)
      intro v1 hv1
      rw [show (42 : Int32) = iZ 42 from rfl, sg] at hv1
      subst hv1
      have go : (cd p = 142 ∨ cd p = 147 ∨ cd p = 137) → ∀ M1, Fx b M M1 → Pa M1 b (p + 1) l → qgMP N m 10 M1 b (iZ d) 0 (fun _ _ M2 => qgMP N m 9 M2 b (iZ d) 0 R) := fun c M1 f1 P1 => by
        rw [if_pos c] at hh
        exact RP_two ih (f := arD (cd p) a) (Or.inr (Or.inr (Or.inr rfl))) (Or.inr (Or.inr (Or.inr rfl))) hh hm (ht.fx f1) (hL.fx f1) P1 (tk_lt ht.2.1 hp (by omega)) hl hd (fun M2 f2 o2 => hR M2 (f1.tr f2) o2)
      refine takes_ok ht hP hp (by omega) (by omega) (fun c M1 f1 P1 => ⟨fun _ => go (by omega) M1 f1 P1, fun q => absurd q one0⟩) (fun c => ⟨fun q => absurd rfl q, fun _ v4 hv4 => ?_⟩)
      rw [show (47 : Int32) = iZ 47 from rfl, sg] at hv4
      subst hv4
      refine takes_ok ht hP hp (by omega) (by omega) (fun c M1 f1 P1 => ⟨fun _ => go (by omega) M1 f1 P1, fun q => absurd q one0⟩) (fun c2 => ⟨fun q => absurd rfl q, fun _ v7 hv7 => ?_⟩)
      rw [show (37 : Int32) = iZ 37 from rfl, sg] at hv7
      subst hv7
      refine takes_ok ht hP hp (by omega) (by omega) (fun c M1 f1 P1 => ⟨fun q => absurd q one0, fun _ => go (by omega) M1 f1 P1⟩) (fun c3 => ⟨fun _ => ?_, fun q => absurd rfl q⟩)
      rw [if_neg (by omega)] at hh; exact stay hh
    | 10, _, hh => exact RP_10 ih hh hm ht hL hP hp hl hd hR
    | 11, _, hh => exact RP_11 ih hh hm ht hL hP hp hl hd hR
    | h + 12, hx, _ => exact absurd hx (by omega)
end MR4
