/-! The class reads: the nots, the loops; all nodes. -/
def exq (q : Bool) : Nat := if q then 1 else 0
def CP5s (N a : Nat) (cd vl pl tk nb : Nat → Int) (T : Nat) (o : Bool) (F : Nat) : Prop := ∀ (d p l : Nat) (ac : Dn) (q : Bool) (res : Pr), PP cd vl o F 5 d p l ac q = some res → ∀ (n : Nat) (M : gM) (R : Int32 → Int64 → gM → Prop) (i len nl : Nat), F + 4 ≤ n → Ct M a cd vl pl tk nb T o → Cs M a p l nl len → p ≤ T → l ≤ 50 → nl ≤ l → d ≤ 8 → len + (T - p) + exq q ≤ 458 → i ≤ p → (∀ M1 v, Cx M M1 a pl T p nl len l o (exq q) res v → R v 0 M1) → qgCP N n 5 M a (iZ d) (iB q) (iZ i) R
section CR5
variable {N a : Nat} {cd vl pl tk nb : Nat → Int} {T : Nat} {o : Bool}
theorem CP_all : ∀ F, CPs N a cd vl pl tk nb T o F ∧ CP5s N a cd vl pl tk nb T o F := by
  intro F
  induction F using Nat.strongRecOn with
  | ind F ih =>
  cases F with
  | zero => exact ⟨fun h d p l ac q res _ hh => (by cases hh), fun d p l ac q res hh => (by cases hh)⟩
  | succ F =>
  obtain ⟨ih1, ih5⟩ := ih F (by omega)
  have n5 : CP5s N a cd vl pl tk nb T o (F + 1) := by
    intro d p l ac q res hh n M R i len nl hn ht hC hp hl hnl hd hs hi hR
    obtain ⟨m, rfl⟩ : ∃ m, n = m + 1 := ⟨n - 1, by omega⟩
    rw [PP5] at hh
    obtain ⟨b1, b2, b3, b4, b5, b6, b7, b8, b9, b10, _⟩ := ct_c ht hp
    have hT := ht.1
    have k21 : (iZ (tk p) = 21) = (cd p = 6) := by rw [iZ_l21]; exact tkz ht hp (fun x y h => by unfold TV at h; omega) (by omega) (by omega)
    have c400 : ((400 : Int32) ≤ iZ i) = (400 ≤ i) := by rw [iZ_l400, iZ_le (by omega) (by omega) (by omega) (by omega)]; exact propext ⟨fun _ => by omega, fun _ => by omega⟩
    have out : ¬ cd p = 6 → pX2_readPlain_45 N (qgCP N m) R M a (iZ d) (iB q) := fun c => by
      rw [if_neg c] at hh
      cases F with
      | zero => cases hh
      | succ F =>
        refine CP_11 (ih F (by omega)).1 hh (by omega) ht hC hp hl hnl hd (exq q) (fun z => by rw [z]; decide) hs hR
    show pX2_readPlain_4 N (qgCP N m) R M a (iZ d) (iB q) (iZ i)
    unfold pX2_readPlain_4
    rw [c400, hC.1, b2, b3, k21, iB_0]
    refine ⟨fun z => out ?_, fun z => ⟨b1, fun z2 => out z2, fun z2 => ?_⟩⟩
    · have e : p = T := by omega
      rw [e, ht.2.1]; decide
    · rw [if_pos z2] at hh
      have pp := tk_lt ht.2.1 hp (by omega)
      have go : pX2_pass N 0 M a (fun M1 => qgCP N m 5 M1 a (iZ d) (iB (!q)) (iZ i + 1) R) := by
        refine pass_ok ht hC (by omega) (fun M1 n1 C1 => ?_)
        rw [iZ_s1]
        have hq : exq (!q) ≤ exq q + 1 := by cases q <;> decide
        refine ih5 d (p + 1) l ac (!q) res hh m M1 R (i + 1) len nl (by omega) (ht.fc n1.1) C1 pp hl hnl hd (by omega) (by omega) (fun M2 v2 c2 => hR M2 v2 ?_)
        obtain ⟨f2, w2, c3⟩ := c2
        refine ⟨n1.1.tr f2, (n1.2 nl len).tr w2 (Nat.le_refl _) (Nat.le_refl _), ?_⟩
        cases res with
        | inl e => exact c3
        | inr y =>
          obtain ⟨c4, nl1, len1, C2, e1, e2, e3, e4, e5⟩ := c3
          exact ⟨c4, nl1, len1, C2, e1, e2, e3, by omega, e5⟩
      cases q with
      | true => exact ⟨fun _ => go, fun z => absurd z (by decide)⟩
      | false => exact ⟨fun z => absurd rfl z, fun _ => go⟩
  refine ⟨?_, n5⟩
  intro h d p l ac q res h10 hh n M R x2 x3 len nl len0 l0 hn ht hC hp hl hnl hd hs hL h5 hE hR
  obtain ⟨m, rfl⟩ : ∃ m, n = m + 1 := ⟨n - 1, by omega⟩
  have hm : F + 4 ≤ m := by omega
  obtain ⟨b1, b2, b3, b4, b5, b6, b7, b8, b9, b10, _⟩ := ct_c ht hp
  have hT := ht.1
  have c400 : ∀ i : Nat, i ≤ p → ((400 : Int32) ≤ iZ i) = (400 ≤ i) := fun i hi => by rw [iZ_l400, iZ_le (by omega) (by omega) (by omega) (by omega)]; exact propext ⟨fun _ => by omega, fun _ => by omega⟩
  have atT : ∀ i : Nat, i ≤ p → 400 ≤ i → cd p = 0 := fun i h1 h2 => by
    have e : p = T := by omega
    rw [e, ht.2.1]
  match h, h10, hh, hL, h5, hE with
  | 0, _, hh, _, _, hE =>
    obtain ⟨e1, e2⟩ := hE (by decide)
    subst e1 e2
    rw [PP0] at hh
    exact CP_two ih1 (Or.inl ⟨rfl, rfl⟩) hh hm ht hC hp hl hnl hd hs hR
  | 1, _, hh, hL, _, _ =>
    obtain ⟨k1, k2, k3, k4, _, i, hi, e2⟩ := hL (by decide)
    subst e2
    rw [PP1] at hh
    have k19 : (iZ (tk p) = 19) = (cd p = 4) := by rw [iZ_l19]; exact tkz ht hp (fun x y h => by unfold TV at h; omega) (by omega) (by omega)
    show pX2_readTest_12 N (qgCP N m) R M a (iZ d) (iZ i)
    unfold pX2_readTest_12
    rw [c400 i hi, hC.1, b2, b3, k19]
    refine ⟨fun z => ?_, fun z => ⟨b1, fun z2 => ?_, fun z2 => ?_⟩⟩
    · have := atT i hi z
      rw [if_neg (by omega)] at hh
      exact hR M 1 (CP_stay hh hC hnl k3)
    · rw [if_neg z2] at hh
      exact hR M 1 (CP_stay hh hC hnl k3)
    · rw [if_pos z2] at hh
      exact CP_tl ih1 (Or.inl ⟨rfl, rfl, rfl, rfl⟩) (by omega) hh hm ht hC hp hl hnl hd hs k1 k2 k3 (k4 (by decide)) hi hR
  | 2, _, hh, _, _, hE =>
    obtain ⟨e1, e2⟩ := hE (by decide)
    subst e1 e2
    rw [PP2] at hh
    exact CP_two ih1 (Or.inr (Or.inl ⟨rfl, rfl⟩)) hh hm ht hC hp hl hnl hd hs hR
  | 3, _, hh, hL, _, _ =>
    obtain ⟨k1, k2, k3, k4, _, i, hi, e2⟩ := hL (by decide)
    subst e2
    rw [PP3] at hh
    have k20 : (iZ (tk p) = 20) = (cd p = 5) := by rw [iZ_l20]; exact tkz ht hp (fun x y h => by unfold TV at h; omega) (by omega) (by omega)
    show pX2_readBoth_12 N (qgCP N m) R M a (iZ d) (iZ i)
    unfold pX2_readBoth_12
    rw [c400 i hi, hC.1, b2, b3, k20]
    refine ⟨fun z => ?_, fun z => ⟨b1, fun z2 => ?_, fun z2 => ?_⟩⟩
    · have := atT i hi z
      rw [if_neg (by omega)] at hh
      exact hR M 1 (CP_stay hh hC hnl k3)
    · rw [if_neg z2] at hh
      exact hR M 1 (CP_stay hh hC hnl k3)
    · rw [if_pos z2] at hh
      exact CP_tl ih1 (Or.inr ⟨rfl, rfl, rfl, rfl⟩) (by omega) hh hm ht hC hp hl hnl hd hs k1 k2 k3 (k4 (by decide)) hi hR
  | 4, _, hh, _, _, hE =>
    obtain ⟨e1, e2⟩ := hE (by decide)
    subst e1 e2
    rw [PP4] at hh
    refine ih5 d p _ ac false res hh m M R 0 _ nl (by omega) ht hC hp hl hnl hd hs (by omega) (fun M2 v2 c2 => hR M2 v2 ?_)
    obtain ⟨f2, w2, c3⟩ := c2
    refine ⟨f2, w2, ?_⟩
    cases res with
    | inl e => exact c3
    | inr y => exact c3
  | 5, _, _, _, h5, _ => exact absurd rfl h5
  | 6, _, hh, _, _, hE =>
    obtain ⟨e1, e2⟩ := hE (by decide)
    subst e1 e2
    rw [PP6] at hh
    exact CP_two ih1 (Or.inr (Or.inr (Or.inl ⟨rfl, rfl⟩))) hh hm ht hC hp hl hnl hd hs hR
  | 7, _, hh, hL, _, _ =>
    obtain ⟨k1, k2, k3, _, k4, i, hi, e2⟩ := hL (by decide)
    subst e2
    rw [PP7] at hh
    obtain ⟨m1, m2⟩ := mark_ok (x := 43) ht hC.1 hp (by omega) (by omega)
    obtain ⟨m3, m4⟩ := mark_ok (x := 45) ht hC.1 hp (by omega) (by omega)
    show pX2_readSum_12 N (qgCP N m) R M a (iZ d) (iZ i)
    unfold pX2_readSum_12
    rw [c400 i hi, show (43 : Int32) = iZ 43 from rfl, show (45 : Int32) = iZ 45 from rfl, m2, m4]
    refine ⟨fun z => ?_, fun z => ⟨m1, fun v1 hv1 => ?_⟩⟩
    · have := atT i hi z
      rw [if_neg (by omega)] at hh
      exact hR M 1 (CP_stay hh hC hnl k3)
    rw [hv1, iB_0]
    refine ⟨fun z2 => ⟨m3, fun v2 hv2 => ?_⟩, fun z2 => ?_⟩
    · rw [hv2, iB_0]
      have y1 : ¬ cd p = 143 := by simpa using z2
      refine ⟨fun z3 => ?_, fun z3 => ?_⟩
      · have y2 : ¬ cd p = 145 := by simpa using z3
        rw [if_neg (by omega)] at hh
        exact hR M 1 (CP_stay hh hC hnl k3)
      · have y2 : cd p = 145 := by simpa using z3
        rw [if_pos (by omega), y2] at hh
        exact CP_op ih1 (s := 145) (Or.inl ⟨rfl, rfl, by omega⟩) y2 hh hm ht hC hp hl hnl hd hs k1 k2 k3 (k4 (by decide)) hi hR
    · have y2 : cd p = 143 := by simpa using z2
      rw [if_pos (by omega), y2] at hh
      exact CP_op ih1 (s := 143) (Or.inl ⟨rfl, rfl, by omega⟩) y2 hh hm ht hC hp hl hnl hd hs k1 k2 k3 (k4 (by decide)) hi hR
  | 8, _, hh, _, _, hE =>
    obtain ⟨e1, e2⟩ := hE (by decide)
    subst e1 e2
    rw [PP8] at hh
    exact CP_two ih1 (Or.inr (Or.inr (Or.inr ⟨rfl, rfl⟩))) hh hm ht hC hp hl hnl hd hs hR
  | 9, _, hh, hL, _, _ =>
    obtain ⟨k1, k2, k3, _, k4, i, hi, e2⟩ := hL (by decide)
    subst e2
    rw [PP9] at hh
    obtain ⟨m1, m2⟩ := mark_ok (x := 42) ht hC.1 hp (by omega) (by omega)
    obtain ⟨m3, m4⟩ := mark_ok (x := 47) ht hC.1 hp (by omega) (by omega)
    obtain ⟨m5, m6⟩ := mark_ok (x := 37) ht hC.1 hp (by omega) (by omega)
    show pX2_readTerm_12 N (qgCP N m) R M a (iZ d) (iZ i)
    unfold pX2_readTerm_12
    rw [c400 i hi, show (42 : Int32) = iZ 42 from rfl, show (47 : Int32) = iZ 47 from rfl, show (37 : Int32) = iZ 37 from rfl, m2, m4, m6]
    refine ⟨fun z => ?_, fun z => ⟨m1, fun v1 hv1 => ?_⟩⟩
    · have := atT i hi z
      rw [if_neg (by omega)] at hh
      exact hR M 1 (CP_stay hh hC hnl k3)
    rw [hv1, iB_0]
    refine ⟨fun z2 => ⟨m3, fun v2 hv2 => ?_⟩, fun z2 => ?_⟩
    · rw [hv2, iB_0]
      have y1 : ¬ cd p = 142 := by simpa using z2
      refine ⟨fun z3 => ⟨m5, fun v3 hv3 => ?_⟩, fun z3 => ?_⟩
      · rw [hv3, iB_0]
        have y2 : ¬ cd p = 147 := by simpa using z3
        refine ⟨fun z4 => ?_, fun z4 => ?_⟩
        · have y3 : ¬ cd p = 137 := by simpa using z4
          rw [if_neg (by omega)] at hh
          exact hR M 1 (CP_stay hh hC hnl k3)
        · have y3 : cd p = 137 := by simpa using z4
          rw [if_pos (by omega), y3] at hh
          exact CP_op ih1 (s := 137) (Or.inr ⟨rfl, rfl, by omega⟩) y3 hh hm ht hC hp hl hnl hd hs k1 k2 k3 (k4 (by decide)) hi hR
      · have y2 : cd p = 147 := by simpa using z3
        rw [if_pos (by omega), y2] at hh
        exact CP_op ih1 (s := 147) (Or.inr ⟨rfl, rfl, by omega⟩) y2 hh hm ht hC hp hl hnl hd hs k1 k2 k3 (k4 (by decide)) hi hR
    · have y2 : cd p = 142 := by simpa using z2
      rw [if_pos (by omega), y2] at hh
      exact CP_op ih1 (s := 142) (Or.inr ⟨rfl, rfl, by omega⟩) y2 hh hm ht hC hp hl hnl hd hs k1 k2 k3 (k4 (by decide)) hi hR
  | 10, _, hh, _, _, hE =>
    obtain ⟨e1, e2⟩ := hE (by decide)
    subst e1 e2
    exact CP_10 ih1 hh hm ht hC hp hl hnl hd hs hR
  | h + 11, hx, _, _, _, _ => exact absurd hx (by omega)
end CR5
