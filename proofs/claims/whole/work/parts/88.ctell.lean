/-! Laws: what a text tells of a rank or a bar. The class. -/
def Wl (w : Nat → Int32) (e : En) : Prop := Eb e ∧ ∀ j : Nat, j < 7 → w j = iZ (e (7 + j) 0)
/-- a text of clauses in the class's memory -/
def Te (M : gM) (tx n1 m1 : Nat) (W : (Nat → Int32) → En → Prop) (cs : List (Nat × Cl)) : Prop := cs.length ≤ n1 ∧ cs.length ≤ 12 ∧ m1 ≤ 460 ∧ g_mi M tx 6 = iZ cs.length ∧ ∃ L : Nat, g_mi M tx 7 = iZ L ∧ L ≤ m1 ∧ ∀ j c, cs[j]? = some c → Ce M tx W j c.2 L
theorem Te.keep {M M1 : gM} {tx n1 m1 : Nat} {W : (Nat → Int32) → En → Prop} {cs : List (Nat × Cl)} (h : Te M tx n1 m1 W cs) (f : ∀ c, tx ≤ c → c ≤ tx + 6 → g_mi M1 c = g_mi M c) : Te M1 tx n1 m1 W cs := by
  unfold Te Ce at h ⊢
  rw [f tx (by omega) (by omega), f (tx + 1) (by omega) (by omega), f (tx + 2) (by omega) (by omega), f (tx + 3) (by omega) (by omega), f (tx + 4) (by omega) (by omega), f (tx + 5) (by omega) (by omega), f (tx + 6) (by omega) (by omega)]
  exact h
/-- what is known of every clause -/
def Clb (o : Bool) (c : Cl) : Prop := (hdS o c.1 ∨ hdN o c.1) ∧ Bs c.2.1 ∧ 1 ≤ c.2.2.1 ∧ c.2.2.1 ≤ 20 ∧ Bt c.2.2.2
theorem Bt1 : Bt (kD 1) := fun e x _ h => by cases h; exact Or.inr rfl
theorem Bs0 : Bs (kD 0) := fun e x _ h => by cases h; omega
section CLB
variable {cd vl : Nat → Int} {o : Bool} {T : Nat}
theorem cTest_B (h0 : cd T = 0) (hv : ∀ i, i ≤ T → 0 ≤ vl i) {p l : Nat} {hd : Int} {S : Dn} {tm : Int} {y : Nat × Nat × Cl} (h : cTest cd vl o p l hd S tm = .inr y) (hp : p ≤ T) (hl : l ≤ 50) (b1 : hdS o hd ∨ hdN o hd) (b2 : Bs S) (b3 : 1 ≤ tm) (b4 : tm ≤ 20) : y.1 ≤ T ∧ y.2.1 ≤ 50 ∧ Clb o y.2.2 := by
  rcases cTest_R h with ⟨c3, D, hD, hy⟩ | ⟨c3, hy⟩
  · have p3 := tk_lt h0 hp (by omega)
    have hx2 := PP_in h0 _ _ _ _ _ _ _ _ (by decide) hD p3 hl
    unfold PPok at hx2
    dsimp only at hx2
    have hb := PP_bd h0 hv _ _ _ _ _ _ _ _ _ _ (by decide) hD p3 hl (fun z => absurd z (by decide)) (fun z => absurd z (by decide))
    refine ⟨hx2.2.1, hx2.2.2.2, ?_⟩
    rw [hy]
    exact ⟨b1, b2, b3, b4, hb.1 (Or.inl (by decide))⟩
  · rw [hy]
    exact ⟨hp, hl, b1, b2, b3, b4, Bt1⟩
theorem cTimes_B (h0 : cd T = 0) (hv : ∀ i, i ≤ T → 0 ≤ vl i) {p l : Nat} {hd : Int} {S : Dn} {y : Nat × Nat × Cl} (h : cTimes cd vl o p l hd S = .inr y) (hp : p ≤ T) (hl : l ≤ 50) (b1 : hdS o hd ∨ hdN o hd) (b2 : Bs S) : y.1 ≤ T ∧ y.2.1 ≤ 50 ∧ Clb o y.2.2 := by
  unfold cTimes at h
  split at h
  · rename_i c
    split at h
    · rename_i c2
      have p1 := tk_lt h0 hp (by omega)
      have p2 := tk_lt h0 p1 (by omega)
      exact cTest_B h0 hv h p2 hl b1 b2 c2.2.1 c2.2.2
    · cases h
  · exact cTest_B h0 hv h hp hl b1 b2 (by omega) (by omega)
theorem RC_B (h0 : cd T = 0) (hv : ∀ i, i ≤ T → 0 ≤ vl i) {p l : Nat} {y : Nat × Nat × Cl} (h : RC cd vl o p l = .inr y) (hp : p ≤ T) (hl : l ≤ 50) : y.1 ≤ T ∧ y.2.1 ≤ 50 ∧ Clb o y.2.2 := by
  unfold RC at h
  split at h
  · rename_i c
    unfold cSum at h
    have p1 : p + 1 ≤ T := tk_lt h0 hp (by rcases c with c | c <;> omega)
    cases hpp : PP cd vl o 480 6 0 (p + 1) l (kD 0) false with
    | none => rw [hpp] at h; cases h
    | some z =>
      cases z with
      | inl q => rw [hpp] at h; cases h
      | inr z =>
        rw [hpp] at h
        dsimp only at h
        have hx2 := PP_in h0 _ _ _ _ _ _ _ _ (by decide) hpp p1 hl
        have hb := PP_bd h0 hv _ _ _ _ _ _ _ z.1 z.2.1 z.2.2 (by decide) hpp p1 hl (fun z => absurd z (by decide)) (fun z => absurd z (by decide))
        exact cTimes_B h0 hv h hx2.2.1 hx2.2.2.2 (Or.inl c) (hb.2 (by decide))
  · split at h
    · rename_i c
      have p1 : p + 1 ≤ T := tk_lt h0 hp (by rcases c with c | c <;> omega)
      exact cTimes_B h0 hv h p1 hl (Or.inr c) Bs0
    · cases h
theorem RA_B (h0 : cd T = 0) (hv : ∀ i, i ≤ T → 0 ≤ vl i) : ∀ (r p l : Nat) (cs : List (Nat × Cl)), RA cd vl o T r p l = .inr cs → p ≤ T → l ≤ 50 → cs.length ≤ r ∧ cs ≠ [] ∧ ∀ c ∈ cs, Clb o c.2 := by
  intro r
  induction r with
  | zero => intro p l cs h; cases h
  | succ r ih =>
    intro p l cs h hp hl
    rw [RA] at h
    cases hrc : RC cd vl o p l with
    | inl q => rw [hrc] at h; cases h
    | inr y =>
      rw [hrc] at h
      dsimp only at h
      obtain ⟨y1, y2, y3⟩ := RC_B h0 hv hrc hp hl
      split at h
      · rename_i c
        cases hra : RA cd vl o T r (y.1 + 1) y.2.1 with
        | inl q => rw [hra] at h; cases h
        | inr cs2 =>
          rw [hra] at h
          cases h
          obtain ⟨i1, _, i2⟩ := ih _ _ _ hra (tk_lt h0 y1 (by omega)) y2
          refine ⟨by rw [List.length_cons]; omega, fun z => (by cases z), fun c hc => ?_⟩
          rcases List.mem_cons.mp hc with z | z
          · rw [z]; exact y3
          · exact i2 c z
      · split at h
        · cases h
        · cases h
          refine ⟨by rw [List.length_singleton]; omega, fun z => (by cases z), fun c hc => ?_⟩
          rcases List.mem_cons.mp hc with z | z
          · rw [z]; exact y3
          · cases z
end CLB
theorem RD_B {bt : Nat → Int} {len : Nat} {o : Bool} {cs : List (Nat × Cl)} (hl : len ≤ 400) (hb : ∀ i, i < len → 0 ≤ bt i ∧ bt i ≤ 255) (h : RD bt len o = .inr cs) : cs.length ≤ 12 ∧ cs ≠ [] ∧ ∀ c ∈ cs, Clb o c.2 := by
  obtain ⟨t1, t2⟩ := tok_R hl hb
  exact RA_B (T := (tkL bt len).length) tkc_T (fun i hi => (t2 i hi).2.2.2.1) 12 0 0 cs h (by omega) (by omega)
section CT9
variable {N K su tx n1 m1 : Nat} {W : (Nat → Int32) → En → Prop} {e : En}
/-- a clause's sum, its test, worked out -/
theorem ce_val {M : gM} {R : Int32 → gM → Prop} {i L : Nat} {c : Cl} (hN : 500 ≤ N) (h : Ce M tx W i c L) (h7 : g_mi M tx 7 = iZ L) (hL : L ≤ m1) (hm : m1 ≤ 460) (hW : W (g_mi M (su + 1)) e) (d1 : tx + 6 < su ∨ su + 2 < tx) : ((∀ M1, Fs su M M1 → R (iO (c.2.1 e)) M1) → pX4_valueOf N K M su tx n1 m1 (g_mi M (tx + 3) i) R) ∧ ((∀ M1, Fs su M M1 → R (iO (c.2.2.2 e)) M1) → pX4_valueOf N K M su tx n1 m1 (g_mi M (tx + 4) i) R) := by
  obtain ⟨h1, h2, s, q, k, t, q2, k2, h3, h4, h5, h6, h8, h9, h10, h11, h12, h13⟩ := h
  refine ⟨fun hR => ?_, fun hR => ?_⟩
  · rw [h3]
    exact Cm_all h5 h6 h10 hN ⟨h7, hL, hm, fun i _ _ => ⟨rfl, rfl⟩, hW, by omega, by omega, by omega⟩ h12 hR
  · rw [h4]
    exact Cm_all h8 h9 h11 hN ⟨h7, hL, hm, fun i _ _ => ⟨rfl, rfl⟩, hW, by omega, by omega, by omega⟩ h13 hR
theorem iO_1 {D : Dn} (hb : Bt D) (he : Eb e) : (iO (D e) = 1) = (D e = some 1) := by
  cases h : D e with
  | none => exact propext ⟨fun z => absurd z (by decide), fun z => (by cases z)⟩
  | some v =>
    rcases hb e v he h with z | z
    · rw [z]; exact propext ⟨fun z => absurd z (by decide), fun z => (by cases z)⟩
    · rw [z]; exact propext ⟨fun _ => rfl, fun _ => rfl⟩
theorem ck_loop {M0 : gM} {R : Int32 → gM → Prop} {cs : List (Nat × Cl)} (hN : 500 ≤ N) (hT : Te M0 tx n1 m1 Wl cs) (hc : ∀ c ∈ cs, Clb false c.2) (hW : Wl (g_mi M0 (su + 1)) e) (d1 : tx + 6 < su ∨ su + 2 < tx) : ∀ (d i n : Nat) (M : gM) (r0 : Int), i + d = cs.length → d + 1 ≤ n → Fs su M0 M → 0 ≤ r0 → r0 ≤ 99 → (∀ M1, Fs su M0 M1 → R (iZ (tlL 1 e (cs.drop i) r0)) M1) → qX4_rankOf N K R n 0 M su tx n1 m1 (iZ r0) (iZ i) := by
  intro d
  induction d with
  | zero =>
    intro i n M r0 hi hn f h1 h2 hR
    obtain ⟨m, rfl⟩ : ∃ m, n = m + 1 := ⟨n - 1, by omega⟩
    rw [qX4_rankOf]
    unfold pX4_rankOf_59
    have hl := hT.2.1
    have c1 : g_mi M tx 6 ≤ iZ (i : Int) := by rw [f tx (by omega), hT.2.2.2.1, iZ_le (by omega) (by omega) (by omega) (by omega)]; omega
    refine ⟨fun _ => ?_, fun z => absurd c1 z⟩
    have := hR M f
    rw [List.drop_of_length_le (by omega)] at this
    exact this
  | succ d ih =>
    intro i n M r0 hi hn f h1 h2 hR
    obtain ⟨m, rfl⟩ : ∃ m, n = m + 1 := ⟨n - 1, by omega⟩
    have hT2 : Te M tx n1 m1 Wl cs := hT.keep (fun c q1 q2 => f c (by omega))
    obtain ⟨l1, l2, l3, l4, L, l5, l6, l7⟩ := hT2
    have hx : i < cs.length := by omega
    have e1 : cs[i]? = some cs[i] := List.getElem?_eq_getElem hx
    have ce := l7 i _ e1
    have cb := hc _ (List.getElem_mem hx)
    have hW2 : Wl (g_mi M (su + 1)) e := by rw [f _ (by omega)]; exact hW
    rw [List.drop_eq_getElem_cons hx] at hR
    rw [qX4_rankOf]
    unfold pX4_rankOf_59
    have c1 : ¬ g_mi M tx 6 ≤ iZ (i : Int) := by rw [l4, iZ_le (by omega) (by omega) (by omega) (by omega)]; omega
    have go : ∀ (M1 : gM) (r1 : Int), Fs su M0 M1 → r1 = tlC 1 e r0 cs[i] → qX4_rankOf N K R m 0 M1 su tx n1 m1 (iZ r1) (iZ ((i + 1 : Nat) : Int)) := fun M1 r1 f1 hr => by
      have tb := tlC_b (x := 1) (e := e) (c := cs[i]) h1 h2
      rw [← hr] at tb
      refine ih (i + 1) m M1 r1 (by omega) (by omega) f1 tb.1 tb.2 (fun M2 f2 => ?_)
      have := hR M2 f2
      rw [hr]; exact this
    rw [iZ_cl (show i < 2147483648 by omega), ce.1, iZ_s1]
    refine ⟨fun z => absurd z c1, fun _ => ⟨iZ_in (by omega) (by omega) (by omega), fun z => go M r0 f ?_, fun z => ?_⟩⟩
    · unfold tlC; rw [if_neg]; intro y; rw [y.1] at z; exact absurd rfl z
    · have hd1 : (cs[i]).2.1 = 1 := by
        rcases cb.1 with w | w
        · rcases w with w | w
          · exact w.2
          · exact absurd w.1 (by decide)
        · rcases w with w | w
          · rw [w.2] at z; exact absurd z (by decide)
          · exact absurd w.1 (by decide)
      refine (ce_val (R := _) hN ce l5 l6 l3 hW2 d1).2 (fun M1 f1 => ?_)
      have f01 : Fs su M0 M1 := fun c q => (f1 c q).trans (f c q)
      rw [iO_1 cb.2.2.2.2 hW.1]
      refine ⟨fun w => ⟨iZ_in (by omega) (by omega) (by omega), ?_⟩, fun w => go M1 r0 f01 ?_⟩
      · have hT3 : Te M1 tx n1 m1 Wl cs := hT.keep (fun c q1 q2 => f01 c (by omega))
        obtain ⟨_, _, _, k4, L3, k5, k6, k7⟩ := hT3
        refine (ce_val (R := _) hN (k7 i _ e1) k5 k6 l3 (by rw [f1 _ (by omega)]; exact hW2) d1).1 (fun M2 f2 => ?_)
        have f02 : Fs su M0 M2 := fun c q => (f2 c q).trans (f01 c q)
        cases hs : (cs[i]).2.2.1 e with
        | none =>
          have tl : tlC 1 e r0 cs[i] = r0 := by unfold tlC svC; rw [if_pos ⟨hd1, w⟩, if_neg (by rw [hd1]; decide), hs]
          refine ⟨fun _ => go M2 r0 f02 tl.symm, fun y => absurd rfl y⟩
        | some v =>
          have tl : tlC 1 e r0 cs[i] = clp v := by unfold tlC svC; rw [if_pos ⟨hd1, w⟩, if_neg (by rw [hd1]; decide), hs]
          have vb := cb.2.1 e v hW.1 hs
          unfold clp at tl
          refine ⟨fun y => absurd y (iO_ne vb.1 vb.2), fun _ => ?_⟩
          unfold iO
          dsimp only
          rw [iZ_l0, iZ_l99, iZ_le (by omega) (by omega) (by omega) (by omega), iZ_le (by omega) (by omega) (by omega) (by omega)]
          refine ⟨fun u => ⟨fun t => go M2 v f02 ?_, fun t => go M2 99 f02 ?_⟩, fun u => go M2 0 f02 ?_⟩
          · rw [tl, if_neg (by omega), if_pos t]
          · rw [tl, if_neg (by omega), if_neg t]
          · rw [tl, if_pos (by omega)]
      · unfold tlC; rw [if_neg]; intro y; exact w y.2
/-- barred or not -/
theorem cb_loop {M0 : gM} {R : Int32 → gM → Prop} {cs : List (Nat × Cl)} (hN : 500 ≤ N) (hT : Te M0 tx n1 m1 Wl cs) (hc : ∀ c ∈ cs, Clb false c.2) (hW : Wl (g_mi M0 (su + 1)) e) (d1 : tx + 6 < su ∨ su + 2 < tx) : ∀ (d i n : Nat) (M : gM), i + d = cs.length → d + 1 ≤ n → Fs su M0 M → (∀ M1, Fs su M0 M1 → R (iZ (tlL 2 e (cs.drop i) 0)) M1) → qX4_isBarred N K R n 0 M su tx n1 m1 (iZ i) := by
  have one : ∀ l : List (Nat × Cl), tlL 2 e l 1 = 1 := by
    intro l
    induction l with
    | nil => rfl
    | cons c l ihl =>
      have : tlC 2 e 1 c = 1 := by
        unfold tlC svC
        split
        · rename_i q; rw [if_pos q.1]; rfl
        · rfl
      unfold tlL
      rw [List.foldl_cons, this]
      exact ihl
  intro d
  induction d with
  | zero =>
    intro i n M hi hn f hR
    obtain ⟨m, rfl⟩ : ∃ m, n = m + 1 := ⟨n - 1, by omega⟩
    rw [qX4_isBarred]
    unfold pX4_isBarred_40
    have hl := hT.2.1
    have c1 : g_mi M tx 6 ≤ iZ (i : Int) := by rw [f tx (by omega), hT.2.2.2.1, iZ_le (by omega) (by omega) (by omega) (by omega)]; omega
    refine ⟨fun _ => ?_, fun z => absurd c1 z⟩
    have := hR M f
    rw [List.drop_of_length_le (by omega)] at this
    exact this
  | succ d ih =>
    intro i n M hi hn f hR
    obtain ⟨m, rfl⟩ : ∃ m, n = m + 1 := ⟨n - 1, by omega⟩
    have hT2 : Te M tx n1 m1 Wl cs := hT.keep (fun c q1 q2 => f c (by omega))
    obtain ⟨l1, l2, l3, l4, L, l5, l6, l7⟩ := hT2
    have hx : i < cs.length := by omega
    have e1 : cs[i]? = some cs[i] := List.getElem?_eq_getElem hx
    have ce := l7 i _ e1
    have cb := hc _ (List.getElem_mem hx)
    have hW2 : Wl (g_mi M (su + 1)) e := by rw [f _ (by omega)]; exact hW
    rw [List.drop_eq_getElem_cons hx] at hR
    rw [qX4_isBarred]
    unfold pX4_isBarred_40
    have c1 : ¬ g_mi M tx 6 ≤ iZ (i : Int) := by rw [l4, iZ_le (by omega) (by omega) (by omega) (by omega)]; omega
    have go : ∀ M1 : gM, Fs su M0 M1 → tlC 2 e 0 cs[i] = 0 → qX4_isBarred N K R m 0 M1 su tx n1 m1 (iZ ((i + 1 : Nat) : Int)) := fun M1 f1 hr => by
      refine ih (i + 1) m M1 (by omega) (by omega) f1 (fun M2 f2 => ?_)
      have := hR M2 f2
      unfold tlL at this
      rw [List.foldl_cons, hr] at this
      exact this
    rw [iZ_cl (show i < 2147483648 by omega), ce.1, iZ_s1]
    refine ⟨fun z => absurd z c1, fun _ => ⟨iZ_in (by omega) (by omega) (by omega), fun z => go M f ?_, fun z => ?_⟩⟩
    · unfold tlC; rw [if_neg]; intro y; rw [y.1] at z; exact absurd rfl z
    · have hd2 : (cs[i]).2.1 = 2 := by
        rcases cb.1 with w | w
        · rcases w with w | w
          · rw [w.2] at z; exact absurd z (by decide)
          · exact absurd w.1 (by decide)
        · rcases w with w | w
          · exact w.2
          · exact absurd w.1 (by decide)
      refine (ce_val (R := _) hN ce l5 l6 l3 hW2 d1).2 (fun M1 f1 => ?_)
      have f01 : Fs su M0 M1 := fun c q => (f1 c q).trans (f c q)
      rw [iO_1 cb.2.2.2.2 hW.1]
      refine ⟨fun w => go M1 f01 ?_, fun w => ?_⟩
      · unfold tlC; rw [if_neg]; intro y; exact w y.2
      · have := hR M1 f01
        unfold tlL at this
        rw [List.foldl_cons, show tlC 2 e 0 cs[i] = 1 by unfold tlC svC; rw [if_pos ⟨hd2, w⟩, if_pos hd2]; rfl] at this
        have o := one (cs.drop (i + 1))
        unfold tlL at o
        rw [o] at this
        exact this
end CT9
