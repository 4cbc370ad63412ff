/-! Orders: the class runs a whole text. -/
section AP8
variable {N K h g : Nat}
theorem ap_loop {M0 : gM} {R : gM → Prop} {f2 : Nat} {P : HL} (hP : RHf M0 g f2 P) (hv : ∀ e ∈ P, Vk e.1 ∧ Vt e.1) (ds : h + 121 < g) (L0 : HL) (hE : ∀ M1 f1, (∀ c, (c < h ∨ h + 121 < c) → g_mi M1 c = g_mi M0 c) → RHf M1 h f1 (lst (L0 ++ P)) → R M1) : ∀ (d i n f : Nat) (M : gM), i + d = P.length → d + 1 ≤ n → (∀ c, (c < h ∨ h + 121 < c) → g_mi M c = g_mi M0 c) → RHf M h f (lst (L0 ++ P.take i)) → qX0_appendAll N K R n 0 M h g (iZ i) := by
  intro d
  induction d with
  | zero =>
    intro i n f M hi hn k hH
    obtain ⟨m, rfl⟩ : ∃ m, n = m + 1 := ⟨n - 1, by omega⟩
    rw [qX0_appendAll]
    unfold pX0_appendAll_2
    have l16 := hP.2.1
    have c1 : g_mi M g 3 ≤ iZ (i : Int) := by rw [k g (by omega), hP.2.2.2.1, iZ_le (by omega) (by omega) (by omega) (by omega)]; omega
    rw [List.take_of_length_le (by omega)] at hH
    exact ⟨fun _ => hE M f k hH, fun z => absurd c1 z⟩
  | succ d ih =>
    intro i n f M hi hn k hH
    obtain ⟨m, rfl⟩ : ∃ m, n = m + 1 := ⟨n - 1, by omega⟩
    rw [qX0_appendAll]
    unfold pX0_appendAll_2
    have l16 := hP.2.1
    have c1 : ¬ g_mi M g 3 ≤ iZ (i : Int) := by rw [k g (by omega), hP.2.2.2.1, iZ_le (by omega) (by omega) (by omega) (by omega)]; omega
    have hx : i < P.length := by omega
    have e1 : P[i]? = some P[i] := List.getElem?_eq_getElem hx
    obtain ⟨s1, s2⟩ := hP.2.2.2.2 i _ e1
    obtain ⟨y1, y2⟩ := hv _ (List.getElem_mem hx)
    have lt := Nat.mod_lt (f2 + i) (show 17 > 0 by omega)
    refine ⟨fun z => absurd z c1, fun _ v1 hv1 => ?_⟩
    rw [slot_8 hP.1 (by omega) (by rw [k g (by omega)]; exact hP.2.2.1)] at hv1
    subst hv1
    rw [iZ_cl (by omega), iZ_s1]
    have vi : vp_in (iZ (((f2 + i) % 17 : Nat) : Int)) 17 := iZ_in (by omega) (by omega) (by omega)
    have l2 := Nat.mod_lt (f + (lst (L0 ++ P.take i)).length) (show 17 > 0 by omega)
    refine ⟨vi, dr_8 hH y1 y2 (s1.keep (fun c q1 q2 => k c (by omega))) (by omega) (fun M1 k1 H1 S1 _ => ⟨vi, ?_⟩)⟩
    rw [k1 _ (by omega), k _ (by omega), s2]
    refine kp_8 H1 S1 (fun M2 f3 k2 H2 _ => ?_)
    rw [psh_lst, List.append_assoc] at H2
    have e2 : P.take i ++ [(P[i].1, P[i].2)] = P.take (i + 1) := by rw [List.take_add_one, e1]; rfl
    rw [e2] at H2
    exact ih (i + 1) m f3 M2 (by omega) (by omega) (fun c q => by rw [k2 c (by omega) (by omega), k1 c (by omega), k c q]) H2
end AP8
theorem iZ_i1 (x : Int) : iZ x + 1 = iZ (x + 1) := by rw [iZ_l1, iZ_add]
section OR8
variable {N K A nl : Nat} {r0 : Nat → Int} {ln ld : Nat → Int32} {law cs : List (Nat × Cl)} {M0 : gM} {R : Int32 → gM → Prop}
/-- how orders end badly in the class -/
abbrev bad8 (N K A : Nat) (R : Int32 → gM → Prop) (M1 : gM) (i : Nat) : Prop := pX3_copyFrom N K M1 (A + 1 + 1) (A + 257) (fun M2 => Sl M1 M2 → ∀ M3 : gM, M3 = (g_wi M2 A 14 (iZ i)) → pX8_refuse N K M3 A (-3) (fun v2 M4 => Sl M3 M4 → R v2 M4))
theorem or8_1 {i : Nat} {c : Nat × Cl} (hN : 500 ≤ N) (hm : bd9 (r0 201)) (hF : FC M0 A (g_mi M0 (A + 1) 6) law) (hX : OX M0 A nl ln ld cs) (hi : cs[i]? = some c) (hc : Clb true c.2) : ∀ (k j n f : Nat) (M : gM) (s : OSt) (nn : Int), (j + k : Int) = c.2.2.2.1 → k + 1 ≤ n → nn + k ≤ 1000 → VO r0 nn s → Fo A M0 M → Sl M0 M → RS M (A + 1 + 1) s.1 → RHf M (A + 135) f (lst s.2.1) → (rnO law c.2 k s = none → ∀ M1 f1, Fo A M0 M1 → Sl M0 M1 → g_mi M1 (A + 135) 2 = iZ ((f1 : Nat) : Int) → f1 < 17 → bad8 N K A R M1 i) → (∀ s2, rnO law c.2 k s = some s2 → ∀ m M1 f1, n ≤ m + k + 1 → Fo A M0 M1 → Sl M0 M1 → RS M1 (A + 1 + 1) s2.1 → RHf M1 (A + 135) f1 (lst s2.2.1) → qX8_orders N K R m 0 M1 A (A + 282 + 2) 12 460 (iZ s2.2.2.1) (iZ s2.2.2.2) (iZ ((i + 1 : Nat) : Int)) 0) → qX8_orders N K R n 1 M A (A + 282 + 2) 12 460 (iZ s.2.2.1) (iZ s.2.2.2) (iZ i) (iZ j) := by
  have hi12 : i < 12 := by
    obtain ⟨q, _⟩ := List.getElem?_eq_some_iff.mp hi
    have := hX.1.2.1
    omega
  have tb := hc.2.2.2.1
  have tb1 := hc.2.2.1
  obtain ⟨hk, hk4⟩ := hkO_b hc.1
  have tm : ∀ M, Fo A M0 M → g_mi M (A + 282 + 2 + 2) i = iZ c.2.2.2.1 ∧ g_mi M (A + 282 + 2 + 1) i = iZ ((hkO c.2.1 : Nat) : Int) := fun M f => by
    obtain ⟨_, _, _, _, L, _, _, t7⟩ := hX.1
    have ce := t7 i c hi
    rw [f _ (by omega) (by omega) (by omega), f _ (by omega) (by omega) (by omega), ce.1, ce.2.1, hk]
    exact ⟨rfl, rfl⟩
  intro k
  induction k with
  | zero =>
    intro j n f M s nn hj hn hnn hV fo sl hS hH hbad hgood
    obtain ⟨m, rfl⟩ : ∃ m, n = m + 1 := ⟨n - 1, by omega⟩
    rw [qX8_orders]
    rw [if_neg (by decide)]
    unfold pX8_orders_71
    rw [iZ_cl (show i < 2147483648 by omega), (tm M fo).1, iZ_le (by omega) (by omega) (by omega) (by omega), iZ_s1]
    refine ⟨iZ_in (by omega) (by omega) (by omega), fun _ => hgood s rfl m M f (by omega) fo sl hS hH, fun z => absurd (by omega) z⟩
  | succ k ih =>
    intro j n f M s nn hj hn hnn hV fo sl hS hH hbad hgood
    obtain ⟨m, rfl⟩ : ∃ m, n = m + 1 := ⟨n - 1, by omega⟩
    rw [qX8_orders]
    rw [if_neg (by decide)]
    unfold pX8_orders_71
    rw [iZ_cl (show i < 2147483648 by omega), (tm M fo).1, iZ_le (by omega) (by omega) (by omega) (by omega), iZ_s1 i, iZ_s1 j]
    refine ⟨iZ_in (by omega) (by omega) (by omega), fun z => absurd z (by omega), fun _ => ?_⟩
    have hm2 : Vm s.1 := by unfold Vm; rw [hV.2.2.1 201 (by omega)]; exact hm
    have X1 := hX.keep (M1 := M) (fun c q1 q2 => fo c (by omega) (by omega) (by omega))
    rw [rnO] at hbad hgood
    have ab := fun v => acA_b (cs := law) (kind := hkO c.2.1) (x := v) hV.1
    refine ro_8 (n := nn) (law := law) hN hV (by omega) hm2 hS (hF.fo sl fo) hH X1 hi hc (fun z M1 f1 S1 H1 sl1 _ => ?_) (fun z z2 M1 f1 fo1 g1 g2 sl1 _ => ?_) (fun v z z2 z3 M1 f1 fo1 g1 g2 sl1 _ => ?_) (fun v z z2 z3 M1 f1 fo1 S1 H1 sl1 _ => ?_)
    · have ho : onO law c.2 s = some s := by unfold onO; rw [if_neg z]
      rw [ho] at hbad hgood
      refine ⟨fun y => absurd rfl y, fun _ => ?_⟩
      exact ih (j + 1) m f M1 s nn (by omega) (by omega) (by omega) hV (fo.tr f1) (Sl.tr sl sl1) S1 H1 hbad (fun s2 e m1 M2 f2 hm1 => hgood s2 e m1 M2 f2 (by omega))
    · have ho : onO law c.2 s = none := by unfold onO; rw [if_pos z, z2]
      rw [ho] at hbad
      exact ⟨fun _ => ⟨fun y => absurd y (by decide), fun _ => hbad rfl M1 f1 (fo.tr fo1) (Sl.tr sl sl1) g1 g2⟩, fun y => absurd y (by decide)⟩
    · have ho : onO law c.2 s = none := by
        unfold onO; rw [if_pos z, z2]; dsimp only; rw [if_neg (by omega)]
      rw [ho] at hbad
      have := ab v
      refine ⟨fun _ => ⟨fun y => absurd y ?_, fun _ => hbad rfl M1 f1 (fo.tr fo1) (Sl.tr sl sl1) g1 g2⟩, fun y => absurd y (iO_ne (by omega) (by omega))⟩
      rw [iZ_l0, iZ_le (by omega) (by omega) (by omega) (by omega)]; omega
    · have ho : onO law c.2 s = some ((acA law s.1 (hkO c.2.1) v).2, s.2.1 ++ [(s.1, (hkO c.2.1 : Int))], s.2.2.1 + 1, if hkO c.2.1 = 4 then (acA law s.1 (hkO c.2.1) v).1 else s.2.2.2) := by
        unfold onO; rw [if_pos z, z2]; dsimp only; rw [if_pos z3]
      rw [ho] at hbad hgood
      have hV2 := hV.on hc ho
      have := ab v
      have nx := ih (j + 1) m f1 M1 _ (nn + 1) (by omega) (by omega) (by omega) hV2 (fo.tr fo1) (Sl.tr sl sl1) S1 H1 hbad (fun s2 e m1 M2 f2 hm1 => hgood s2 e m1 M2 f2 (by omega))
      dsimp only at nx
      refine ⟨fun _ => ⟨fun _ => ⟨iZ_in (by omega) (by omega) (by omega), ?_⟩, fun y => absurd ?_ y⟩, fun y => absurd y (iO_ne (by omega) (by omega))⟩
      · rw [(tm M1 (fo.tr fo1)).2, iZ_l4, iZ_eq (by omega) (by omega) (by omega) (by omega), iZ_i1 s.2.2.1]
        refine ⟨fun y => ?_, fun y => ?_⟩
        · rw [if_neg (by omega)] at nx; exact nx
        · rw [if_pos (by omega)] at nx; exact nx
      · rw [iZ_l0, iZ_le (by omega) (by omega) (by omega) (by omega)]; exact z3
theorem or8_0 (hN : 500 ≤ N) (hm : bd9 (r0 201)) (hF : FC M0 A (g_mi M0 (A + 1) 6) law) (hX : OX M0 A nl ln ld cs) (hc : ∀ c ∈ cs, Clb true c.2) : ∀ (d i n f : Nat) (M : gM) (s : OSt) (nn : Int), i + d = cs.length → 22 * d + 1 ≤ n → nn + 20 * d ≤ 1000 → VO r0 nn s → Fo A M0 M → Sl M0 M → RS M (A + 1 + 1) s.1 → RHf M (A + 135) f (lst s.2.1) → (∀ u, orO law (cs.drop i) i s = .inl u → u < 12 → ∀ M1 f1, Fo A M0 M1 → Sl M0 M1 → g_mi M1 (A + 135) 2 = iZ ((f1 : Nat) : Int) → f1 < 17 → bad8 N K A R M1 u) → (∀ s2, orO law (cs.drop i) i s = .inr s2 → ∀ M1 f1, Fo A M0 M1 → Sl M0 M1 → RS M1 (A + 1 + 1) s2.1 → RHf M1 (A + 135) f1 (lst s2.2.1) → pX0_appendAll N K M1 (A + 13) (A + 135) (fun M2 => Sl M1 M2 → pX8_accept N K M2 A (iZ s2.2.2.1) (fun v1 M3 => Sl M2 M3 → R v1 M3))) → qX8_orders N K R n 0 M A (A + 282 + 2) 12 460 (iZ s.2.2.1) (iZ s.2.2.2) (iZ i) 0 := by
  have l12 := hX.1.2.1
  intro d
  induction d with
  | zero =>
    intro i n f M s nn hi hn hnn hV fo sl hS hH hbad hgood
    obtain ⟨m, rfl⟩ : ∃ m, n = m + 1 := ⟨n - 1, by omega⟩
    rw [qX8_orders]
    rw [if_pos rfl]
    unfold pX8_orders_59
    rw [List.drop_of_length_le (by omega)] at hgood
    have c1 : g_mi M (A + 282 + 2) 6 ≤ iZ (i : Int) := by rw [fo _ (by omega) (by omega) (by omega), hX.1.2.2.2.1, iZ_le (by omega) (by omega) (by omega) (by omega)]; omega
    exact ⟨fun _ => hgood s rfl M f fo sl hS hH, fun z => absurd c1 z⟩
  | succ d ih =>
    intro i n f M s nn hi hn hnn hV fo sl hS hH hbad hgood
    obtain ⟨m, rfl⟩ : ∃ m, n = m + 1 := ⟨n - 1, by omega⟩
    rw [qX8_orders]
    rw [if_pos rfl]
    unfold pX8_orders_59
    have hx : i < cs.length := by omega
    have e1 : cs[i]? = some cs[i] := List.getElem?_eq_getElem hx
    have cb := hc _ (List.getElem_mem hx)
    rw [List.drop_eq_getElem_cons hx, orO] at hbad hgood
    have t1 := cb.2.2.1
    have t2 := cb.2.2.2.1
    have c1 : ¬ g_mi M (A + 282 + 2) 6 ≤ iZ (i : Int) := by rw [fo _ (by omega) (by omega) (by omega), hX.1.2.2.2.1, iZ_le (by omega) (by omega) (by omega) (by omega)]; omega
    refine ⟨fun z => absurd z c1, fun _ => ?_⟩
    show qX8_orders N K R m 1 M A (A + 282 + 2) 12 460 (iZ s.2.2.1) (iZ s.2.2.2) (iZ i) (iZ ((0 : Nat) : Int))
    refine or8_1 hN hm hF hX e1 cb (cs[i]).2.2.2.1.toNat 0 m f M s nn (by omega) (by omega) (by omega) hV fo sl hS hH (fun e => ?_) (fun s2 e m1 M1 f1 hm1 fo1 sl1 S1 H1 => ?_)
    · rw [e] at hbad
      exact hbad i rfl (by omega)
    · rw [e] at hbad hgood
      have hV2 := VO.rn cb _ s nn s2 hV e
      exact ih (i + 1) m1 f1 M1 s2 _ (by omega) (by omega) (by omega) hV2 fo1 sl1 S1 H1 hbad hgood
end OR8
