/-! The class reads: its small steps. -/
section CR
variable {N K : Nat} {M : gM} {a : Nat} {cd vl pl tk nb : Nat → Int} {T : Nat} {o : Bool} {p l nl len : Nat}
theorem ct_c (h : Ct M a cd vl pl tk nb T o) (hp : p ≤ T) : vp_in (iZ p) 401 ∧ (iZ (p : Int)).toNatClampNeg = p ∧ g_mi M (a + 11) p = iZ (tk p) ∧ g_mi M (a + 13) p = iZ (nb p) ∧ g_mi M (a + 12) p = iZ (pl p) ∧ TV (cd p) (tk p) ∧ (tk p = 24 ↔ p = T) ∧ NB (cd p) (vl p) (nb p) ∧ 0 ≤ tk p ∧ tk p ≤ 280 ∧ -1 ≤ nb p ∧ nb p ≤ 1001 := by
  have h4 := h.1
  obtain ⟨h1, h2, h3, h5, h6, h7, h8, h9, h10, h11⟩ := h.2.2.1 p hp
  have t := TV_b h1
  have u := NB_b h3 h5
  exact ⟨iZ_in (by omega) (by omega) (by omega), iZ_cl (by omega), h9, h10, h11, h1, h2, h3, t.1, t.2.1, u.1, u.2⟩
/-- only the reader's own fields have changed -/
def Nx (a : Nat) (M M1 : gM) : Prop := Fc a M M1 ∧ ∀ nl len, Lw a nl len M M1
theorem Nx.wi {i : Nat} {x : Int32} (hi : i = 4 ∨ i = 6 ∨ i = 10 ∨ i = 11) : Nx a M (g_wi M a i x) := ⟨fun c j h1 h2 h3 h4 h5 h6 => by rw [mi_wi, if_neg (by omega)], fun nl len => ⟨fun j hj => ⟨by rw [mi_wi, if_neg (by omega)], by rw [mi_wi, if_neg (by omega)]⟩, fun j hj => ⟨by rw [mi_wi, if_neg (by omega)], by rw [mi_wi, if_neg (by omega)]⟩⟩⟩
theorem pass_ok {R : gM → Prop} (ht : Ct M a cd vl pl tk nb T o) (hC : Cs M a p l nl len) (hp : p < T) (hR : ∀ M1, Nx a M M1 → Cs M1 a (p + 1) l nl len → R M1) : pX2_pass N K M a R := by
  obtain ⟨b1, b2, b3, b4, b5, b6, b7, b8, b9, b10, _⟩ := ct_c ht (show p ≤ T by omega)
  have h4 := ht.1
  unfold pX2_pass
  rw [hC.1, b2, b3]
  refine ⟨fun q => ?_, fun _ => ⟨b1, fun q => ?_, fun _ M1 hM => ?_⟩⟩
  · rw [iZ_l400, iZ_le (by omega) (by omega) (by omega) (by omega)] at q; omega
  · rw [iZ_l24, iZ_eq (by omega) (by omega) (by omega) (by omega)] at q; omega
  · refine hR M1 (by rw [hM]; exact Nx.wi (by decide)) ⟨?_, ?_, ?_, ?_, ?_⟩
    · rw [hM, mi_wi, if_pos ⟨rfl, rfl⟩, iZ_s1]
    · rw [hM, mi_wi, if_neg (by omega)]; exact hC.2.1
    · rw [hM, mi_wi, if_neg (by omega)]; exact hC.2.2.1
    · rw [hM, mi_wi, if_neg (by omega)]; exact hC.2.2.2.1
    · exact ⟨by rw [hM, mi_wi, if_neg (by omega)]; exact hC.2.2.2.2.1, by rw [hM]; exact LB.wi (by omega) hC.2.2.2.2.2⟩
theorem fail_ok {R : Int32 → gM → Prop} (ht : Ct M a cd vl pl tk nb T o) (h10 : g_mi M a 10 = iZ p) (hp : p ≤ T) (hR : ∀ M1, Nx a M M1 → g_mi M1 a 6 = iZ (pl p) → R 0 M1) : pX2_fail N K M a R := by
  obtain ⟨b1, b2, b3, b4, b5, _⟩ := ct_c ht hp
  unfold pX2_fail
  rw [h10, b2, b5]
  refine ⟨b1, fun M1 hM => hR M1 (by rw [hM]; exact Nx.wi (by decide)) ?_⟩
  rw [hM, mi_wi, if_pos ⟨rfl, rfl⟩]
theorem mark_ok {x : Int} (ht : Ct M a cd vl pl tk nb T o) (h10 : g_mi M a 10 = iZ p) (hp : p ≤ T) (x0 : 0 ≤ x) (x1 : x ≤ 255) : EX2_isMark M a (iZ x) ∧ fX2_isMark M a (iZ x) = iB (decide (cd p = 100 + x)) := by
  obtain ⟨b1, b2, b3, b4, b5, b6, b7, b8, b9, b10, _⟩ := ct_c ht hp
  unfold EX2_isMark fX2_isMark
  rw [h10, b2, b3, iZ_l25, iZ_add]
  refine ⟨b1, ?_⟩
  have e : (iZ (tk p) = iZ (25 + x)) = (cd p = 100 + x) := by
    rw [iZ_eq (by omega) (by omega) (by omega) (by omega)]
    unfold TV at b6
    exact propext ⟨fun _ => by omega, fun _ => by omega⟩
  unfold iB
  by_cases c : cd p = 100 + x
  · rw [if_pos (by rw [e]; exact c), if_pos (by simpa using c)]
  · rw [if_neg (by rw [e]; exact c), if_neg (by simpa using c)]
theorem pmark_ok {R : Int32 → gM → Prop} {x : Int} (ht : Ct M a cd vl pl tk nb T o) (hC : Cs M a p l nl len) (hp : p ≤ T) (x0 : 0 ≤ x) (x1 : x ≤ 255) (hy : cd p = 100 + x → ∀ M1, Nx a M M1 → Cs M1 a (p + 1) l nl len → R 1 M1) (hn : cd p ≠ 100 + x → ∀ M1, Nx a M M1 → g_mi M1 a 6 = iZ (pl p) → R 0 M1) : pX2_passMark N K M a (iZ x) R := by
  obtain ⟨e1, e2⟩ := mark_ok ht hC.1 hp x0 x1
  unfold pX2_passMark
  rw [e2]
  refine ⟨e1, fun v1 hv1 => ⟨fun q => ?_, fun q => ?_⟩⟩
  · have c : cd p = 100 + x := by rw [hv1, iB_0] at q; simpa using q
    have := tk_lt ht.2.1 hp (by omega)
    exact pass_ok ht hC (by omega) (fun M1 n1 c1 => hy c M1 n1 c1)
  · have c : cd p ≠ 100 + x := by rw [hv1, iB_0] at q; simpa using q
    exact fail_ok ht hC.1 hp (fun M1 n1 e1 => ⟨Or.inl rfl, hn c M1 n1 e1⟩)
theorem put_all {R : Int32 → gM → Prop} {k x : Int32} (hC : Cs M a p l nl len) (hl : len < 460) (hR : ∀ M1, Fc a M M1 → (∀ nx, Lw a nx len M M1) → Cs M1 a p l nl (len + 1) → g_mi M1 (a + 7) len = k → g_mi M1 (a + 8) len = x → R (iZ len) M1) : pX6_put N K M (a + 2) 12 460 k x R := by
  unfold pX6_put
  rw [show a + 2 + 5 = a + 7 from rfl, show a + 2 + 6 = a + 8 from rfl, hC.2.2.2.1, iZ_cl (show len < 2147483648 by omega), show Int32.ofNat 460 = iZ 460 from rfl]
  have c1 : iZ (len : Int) < iZ 460 := by rw [iZ_lt (by omega) (by omega) (by omega) (by omega)]; omega
  refine ⟨fun _ => ⟨iZ_in (by omega) (by omega) (by omega), fun M1 hM1 => ?_⟩, fun q => absurd c1 q⟩
  have e1 : g_mi M1 (a + 2) 7 = iZ len := by rw [hM1, mi_wi, if_neg (by omega)]; exact hC.2.2.2.1
  rw [e1, iZ_cl (show len < 2147483648 by omega)]
  refine ⟨iZ_in (by omega) (by omega) (by omega), fun M2 hM2 M3 hM3 => ?_⟩
  have e2 : g_mi M2 (a + 2) 7 = iZ len := by rw [hM2, mi_wi, if_neg (by omega)]; exact e1
  rw [e2, iZ_s1] at hM3
  have e3 : g_mi M3 (a + 2) 7 = iZ ((len + 1 : Nat) : Int) := by rw [hM3, mi_wi, if_pos ⟨rfl, rfl⟩]
  rw [e3, iZ_m1 (by omega), show len + 1 - 1 = len by omega]
  have g : ∀ c j, g_mi M3 c j = if c = a + 2 ∧ j = 7 then iZ ((len + 1 : Nat) : Int) else if c = a + 8 ∧ j = len then x else if c = a + 7 ∧ j = len then k else g_mi M c j := fun c j => by
    rw [hM3, mi_wi, hM2, mi_wi, hM1, mi_wi]
  refine hR M3 (fun c j h1 h2 h3 h4 h5 h6 => ?_) (fun nx => ⟨fun j hj => ⟨?_, ?_⟩, fun j hj => ⟨?_, ?_⟩⟩) ⟨?_, ?_, ?_, e3, ?_⟩ ?_ ?_
  · rw [g, if_neg (by omega), if_neg (by omega), if_neg (by omega)]
  · rw [g, if_neg (by omega), if_neg (by omega), if_neg (by omega)]
  · rw [g, if_neg (by omega), if_neg (by omega), if_neg (by omega)]
  · rw [g, if_neg (by omega), if_neg (by omega), if_neg (by omega)]
  · rw [g, if_neg (by omega), if_neg (by omega), if_neg (by omega)]
  · rw [g, if_neg (by omega), if_neg (by omega), if_neg (by omega)]; exact hC.1
  · rw [g, if_neg (by omega), if_neg (by omega), if_neg (by omega)]; exact hC.2.1
  · rw [g, if_neg (by omega), if_neg (by omega), if_neg (by omega)]; exact hC.2.2.1
  · exact ⟨by rw [g, if_neg (by omega), if_neg (by omega), if_neg (by omega)]; exact hC.2.2.2.2.1, fun i hi => by rw [g, if_neg (by omega), if_neg (by omega), if_neg (by omega)]; exact hC.2.2.2.2.2 i hi⟩
  · rw [g, if_neg (by omega), if_neg (by omega), if_pos ⟨rfl, rfl⟩]
  · rw [g, if_neg (by omega), if_pos ⟨rfl, rfl⟩]
theorem put_ok {R : Int32 → gM → Prop} {k x : Int32} (hC : Cs M a p l nl len) (hl : len < 460) (hR : ∀ M1, Fc a M M1 → Lw a nl len M M1 → Cs M1 a p l nl (len + 1) → g_mi M1 (a + 7) len = k → g_mi M1 (a + 8) len = x → R (iZ len) M1) : pX6_put N K M (a + 2) 12 460 k x R := put_all hC hl (fun M1 f1 w1 => hR M1 f1 (w1 nl))
theorem jump_ok {R : gM → Prop} {i : Nat} (hC : Cs M a p l nl len) (hi : i < len) (hl : len ≤ 460) (hR : ∀ M1, Fc a M M1 → Lw a nl i M M1 → Cs M1 a p l nl len → g_mi M1 (a + 7) = g_mi M (a + 7) → g_mi M1 (a + 8) i = iZ len → (∀ j, j ≠ i → g_mi M1 (a + 8) j = g_mi M (a + 8) j) → g_mi M1 (a + 9) = g_mi M (a + 9) → g_mi M1 (a + 10) = g_mi M (a + 10) → R M1) : pX6_jumpToHere N K M (a + 2) 12 460 (iZ i) R := by
  unfold pX6_jumpToHere
  rw [show a + 2 + 6 = a + 8 from rfl, hC.2.2.2.1, iZ_cl (show i < 2147483648 by omega)]
  have c1 : ¬ iZ (i : Int) < 0 := by rw [iZ_l0, iZ_lt (by omega) (by omega) (by omega) (by omega)]; omega
  have c2 : ¬ iZ (len : Int) ≤ iZ (i : Int) := by rw [iZ_le (by omega) (by omega) (by omega) (by omega)]; omega
  refine ⟨fun q => absurd q c1, fun _ => ⟨fun q => absurd q c2, fun _ => ⟨iZ_in (by omega) (by omega) (by omega), fun M1 hM => ?_⟩⟩⟩
  have g : ∀ c j, g_mi M1 c j = if c = a + 8 ∧ j = i then iZ len else g_mi M c j := fun c j => by rw [hM, mi_wi]
  refine hR M1 (fun c j h1 h2 h3 h4 h5 h6 => ?_) ⟨fun j hj => ⟨?_, ?_⟩, fun j hj => ⟨?_, ?_⟩⟩ ⟨?_, ?_, ?_, ?_, ?_⟩ ?_ ?_ (fun j hj => ?_) ?_ ?_
  · rw [g, if_neg (by omega)]
  · rw [g, if_neg (by omega)]
  · rw [g, if_neg (by omega)]
  · rw [g, if_neg (by omega)]
  · rw [g, if_neg (by omega)]
  · rw [g, if_neg (by omega)]; exact hC.1
  · rw [g, if_neg (by omega)]; exact hC.2.1
  · rw [g, if_neg (by omega)]; exact hC.2.2.1
  · rw [g, if_neg (by omega)]; exact hC.2.2.2.1
  · exact ⟨by rw [g, if_neg (by omega)]; exact hC.2.2.2.2.1, fun i hi => by rw [g, if_neg (by omega)]; exact hC.2.2.2.2.2 i hi⟩
  · funext j; rw [g, if_neg (by omega)]
  · rw [g, if_pos ⟨rfl, rfl⟩]
  · rw [g, if_neg (by omega)]
  · funext j; rw [g, if_neg (by omega)]
  · funext j; rw [g, if_neg (by omega)]
end CR
/-- what the class's memory shows of a result -/
def Cp (M M1 : gM) (a : Nat) (pl : Nat → Int) (T p nl len len0 l0 : Nat) (o : Bool) (res : Pr) (v : Int32) : Prop := Fc a M M1 ∧ Lw a nl len M M1 ∧ match res with
  | .inl e => v = 0 ∧ g_mi M1 a 6 = iZ (pl e)
  | .inr y => v = 1 ∧ ∃ nl1 len1, Cs M1 a y.1 y.2.1 nl1 len1 ∧ nl ≤ nl1 ∧ nl1 ≤ y.2.1 ∧ len ≤ len1 ∧ len1 + (T - y.1) ≤ len + (T - p) ∧ Cmm M1 a nl1 o len0 len1 (y.2.1 - l0) y.2.2
abbrev lpn (h : Nat) : Prop := h = 1 ∨ h = 3 ∨ h = 7 ∨ h = 9
def CPs (N a : Nat) (cd vl pl tk nb : Nat → Int) (T : Nat) (o : Bool) (F : Nat) : Prop := ∀ (h d p l : Nat) (ac : Dn) (q : Bool) (res : Pr), h ≤ 10 → PP cd vl o F h d p l ac q = some res → ∀ (n : Nat) (M : gM) (R : Int32 → Int64 → gM → Prop) (x2 x3 : Int32) (len nl len0 l0 : Nat), F + 4 ≤ n → Ct M a cd vl pl tk nb T o → Cs M a p l nl len → p ≤ T → l ≤ 50 → nl ≤ l → d ≤ 8 → len + (T - p) ≤ 458 → (lpn h → len0 ≤ len ∧ l0 ≤ l ∧ Cmm M a nl o len0 len (l - l0) ac ∧ (h ≤ 5 → Bt ac) ∧ (6 ≤ h → Bs ac) ∧ ∃ i : Nat, i ≤ p ∧ x2 = iZ i) → h ≠ 5 → (¬ lpn h → len0 = len ∧ l0 = l) → (∀ M1 v, Cp M M1 a pl T p nl len len0 l0 o res v → R v 0 M1) → qgCP N n h M a (iZ d) x2 x3 R
section CR2
variable {N a : Nat} {cd vl pl tk nb : Nat → Int} {T : Nat} {o : Bool} {F : Nat}
theorem Ct.vv {M : gM} (h : Ct M a cd vl pl tk nb T o) : ∀ i, i ≤ T → 0 ≤ vl i := fun i hi => (h.2.2.1 i hi).2.2.2.1
/-- one piece, then its loop: the entries of tests, sums -/
theorem CP_two (ih : CPs N a cd vl pl tk nb T o F) {h1 h2 d p l : Nat} {ac : Dn} {res : Pr} (u : (h1 = 2 ∧ h2 = 1) ∨ (h1 = 4 ∧ h2 = 3) ∨ (h1 = 8 ∧ h2 = 7) ∨ (h1 = 10 ∧ h2 = 9)) (hh : thn (PP cd vl o F h1 d p l ac false) (fun p2 l2 v => PP cd vl o F h2 d p2 l2 v false) = some res) {n : Nat} {M : gM} {R : Int32 → Int64 → gM → Prop} {len nl : Nat} (hn : F + 4 ≤ n) (ht : Ct M a cd vl pl tk nb T o) (hC : Cs M a p l nl len) (hp : p ≤ T) (hl : l ≤ 50) (hnl : nl ≤ l) (hd : d ≤ 8) (hs : len + (T - p) ≤ 458) (hR : ∀ M1 v, Cp M M1 a pl T p nl len len l o res v → R v 0 M1) : qgCP N n h1 M a (iZ d) 0 0 (fun v1 _ M1 => ((¬ v1 = 0 → qgCP N n h2 M1 a (iZ d) 0 0 R) ∧ (v1 = 0 → R 0 0 M1))) := by
  have nl1 : ¬ lpn h1 := by unfold lpn; omega
  have hlp : lpn h2 := by unfold lpn; omega
  rcases thn_inv hh with ⟨x, q1, q2⟩ | ⟨p2, l2, v, q1, q2⟩
  · refine ih h1 d p l ac false _ (by omega) q1 n M _ 0 0 len nl len l hn ht hC hp hl hnl hd hs (fun z => absurd z nl1) (fun z => absurd z (by omega)) (fun _ => ⟨rfl, rfl⟩) (fun M1 v1 c1 => ?_)
    subst q2
    obtain ⟨c1, c2, c3, c4⟩ := c1
    subst c3
    exact ⟨fun z => absurd rfl z, fun _ => hR M1 0 ⟨c1, c2, rfl, c4⟩⟩
  · refine ih h1 d p l ac false _ (by omega) q1 n M _ 0 0 len nl len l hn ht hC hp hl hnl hd hs (fun z => absurd z nl1) (fun z => absurd z (by omega)) (fun _ => ⟨rfl, rfl⟩) (fun M1 v1 c1 => ?_)
    have hx := PP_in ht.2.1 _ _ _ _ _ _ _ _ (by omega) q1 hp hl
    obtain ⟨f1, w1, c3, nl1, len1, C1, e1, e2, e3, e4, e5⟩ := c1
    subst c3
    dsimp only at C1 e2 e4 e5
    refine ⟨fun _ => ?_, fun z => absurd z one0⟩
    have bd := PP_bd ht.2.1 ht.vv _ _ _ _ _ _ _ _ _ _ (by omega) q1 hp hl (fun z => absurd z (by omega)) (fun z => absurd z (by omega))
    refine ih h2 d p2 l2 v false res (by omega) q2 n M1 R 0 0 len1 nl1 len l hn (ht.fc f1) C1 hx.2.1 hx.2.2.2 e2 hd (by omega) (fun _ => ⟨e3, hx.2.2.1, e5, fun z => bd.1 (by omega), fun z => bd.2 (by omega), 0, by omega, rfl⟩) (fun z => absurd z (by omega)) (fun z => absurd hlp z) (fun M2 v2 c2 => hR M2 v2 ?_)
    obtain ⟨f2, w2, c4⟩ := c2
    refine ⟨f1.tr f2, w1.tr w2 e1 e3, ?_⟩
    cases res with
    | inl e => exact c4
    | inr y =>
      obtain ⟨c4, nl2, len2, C2, g1, g2, g3, g4, g5⟩ := c4
      exact ⟨c4, nl2, len2, C2, by omega, g2, by omega, by omega, g5⟩
/-- the loops of sums: 7, 9 -/
theorem CP_op (ih : CPs N a cd vl pl tk nb T o F) {h1 h2 d p l : Nat} {ac : Dn} {s : Int} {res : Pr} (u : (h1 = 8 ∧ h2 = 7 ∧ (s = 143 ∨ s = 145)) ∨ (h1 = 10 ∧ h2 = 9 ∧ (s = 142 ∨ s = 147 ∨ s = 137))) (hs0 : cd p = s) (hh : thn (PP cd vl o F h1 d (p + 1) l ac false) (fun p2 l2 v => PP cd vl o F h2 d p2 l2 (arD s ac v) false) = some res) {n : Nat} {M : gM} {R : Int32 → Int64 → gM → Prop} {len nl len0 l0 i : Nat} (hn : F + 4 ≤ n) (ht : Ct M a cd vl pl tk nb T o) (hC : Cs M a p l nl len) (hp : p ≤ T) (hl : l ≤ 50) (hnl : nl ≤ l) (hd : d ≤ 8) (hs : len + (T - p) ≤ 458) (k1 : len0 ≤ len) (k2 : l0 ≤ l) (k3 : Cmm M a nl o len0 len (l - l0) ac) (k4 : Bs ac) (hi : i ≤ p) (hR : ∀ M1 v, Cp M M1 a pl T p nl len len0 l0 o res v → R v 0 M1) : pX2_pass N 0 M a (fun M1 => qgCP N n h1 M1 a (iZ d) 0 0 (fun v3 _ M2 => ((¬ v3 = 0 → pX6_put N 0 M2 (a + 2) 12 460 (iZ (ik s)) 0 (fun _ M3 => qgCP N n h2 M3 a (iZ d) (iZ i + 1) 0 R)) ∧ (v3 = 0 → R 0 0 M2)))) := by
  have pp := tk_lt ht.2.1 hp (by omega)
  have nl1 : ¬ lpn h1 := by unfold lpn; omega
  have hlp : lpn h2 := by unfold lpn; omega
  refine pass_ok ht hC (by omega) (fun M1 n1 C1 => ?_)
  have ht1 := ht.fc n1.1
  rcases thn_inv hh with ⟨x, q1, q2⟩ | ⟨p2, l2, v, q1, q2⟩
  · refine ih h1 d (p + 1) l ac false _ (by omega) q1 n M1 _ 0 0 len nl len l hn ht1 C1 pp hl hnl hd (by omega) (fun z => absurd z nl1) (fun z => absurd z (by omega)) (fun _ => ⟨rfl, rfl⟩) (fun M2 v2 c2 => ?_)
    subst q2
    obtain ⟨f2, w2, c3, c4⟩ := c2
    subst c3
    exact ⟨fun z => absurd rfl z, fun _ => hR M2 0 ⟨n1.1.tr f2, (n1.2 nl len).tr w2 (Nat.le_refl _) (Nat.le_refl _), rfl, c4⟩⟩
  · refine ih h1 d (p + 1) l ac false _ (by omega) q1 n M1 _ 0 0 len nl len l hn ht1 C1 pp hl hnl hd (by omega) (fun z => absurd z nl1) (fun z => absurd z (by omega)) (fun _ => ⟨rfl, rfl⟩) (fun M2 v2 c2 => ?_)
    have hx := PP_in ht.2.1 _ _ _ _ _ _ _ _ (by omega) q1 pp hl
    have hx3 : l ≤ l2 := hx.2.2.1
    obtain ⟨f2, w2, c3, nl2, len2, C2, e1, e2, e3, e4, e5⟩ := c2
    subst c3
    dsimp only at C2 e2 e4 e5
    refine ⟨fun _ => ?_, fun z => absurd z one0⟩
    have bd := PP_bd ht.2.1 ht.vv _ _ _ _ _ _ _ _ _ _ (by omega) q1 pp hl (fun z => absurd z (by omega)) (fun z => absurd z (by omega))
    have hp2 : p2 ≤ T := hx.2.1
    have hpp : p + 1 ≤ p2 := hx.1
    refine put_ok C2 (by omega) (fun M3 f3 w3 C3 s1 s2 => ?_)
    have fa := (n1.1.tr f2).tr f3
    have wa := ((n1.2 nl len).tr w2 (Nat.le_refl _) (Nat.le_refl _)).tr w3 e1 e3
    have ca : Cmm M3 a nl2 o len0 len (l - l0) ac := Cmm.lw k3 wa (Nat.le_refl _) e1
    have cb : Cmm M3 a nl2 o len len2 (l2 - l) v := Cmm.lw e5 w3 (Nat.le_refl _) (Nat.le_refl _)
    have cc : Cmm M3 a nl2 o len0 (len2 + 1) (l2 - l0) (arD s ac v) := by
      have := Cm_ar (o := s) ca cb (by omega) s1 (fun w e h => h.1) k4 (bd.2 (by omega))
      rw [show l - l0 + (l2 - l) = l2 - l0 by omega] at this
      exact this
    rw [iZ_s1]
    refine ih h2 d p2 l2 (arD s ac v) false res (by omega) q2 n M3 R _ 0 (len2 + 1) nl2 len0 l0 hn (ht.fc fa) C3 hp2 hx.2.2.2 e2 hd (by omega) (fun _ => ⟨by omega, by omega, cc, fun z => absurd z (by omega), fun _ => Bs_ar, i + 1, by omega, rfl⟩) (fun z => absurd z (by omega)) (fun z => absurd hlp z) (fun M4 v4 c4 => hR M4 v4 ?_)
    obtain ⟨f4, w4, c5⟩ := c4
    refine ⟨fa.tr f4, wa.tr w4 e1 (by omega), ?_⟩
    cases res with
    | inl e => exact c5
    | inr y =>
      obtain ⟨c5, nl3, len3, C5, g1, g2, g3, g4, g5⟩ := c5
      exact ⟨c5, nl3, len3, C5, by omega, g2, by omega, by omega, g5⟩
end CR2
