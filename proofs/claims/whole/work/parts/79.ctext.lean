/-! Whole texts: the class reads them. -/
def kc (h : Int) : Int := if h = 1 then 5 else if h = 2 then 6 else if h = 18 then 0 else if h = 19 then 1 else if h = 20 then 2 else if h = 10 then 3 else 4
/-- a clause as a text at tx has it, at i -/
def Ce (M : gM) (tx : Nat) (W : (Nat → Int32) → En → Prop) (i : Nat) (c : Cl) (L : Nat) : Prop := g_mi M (tx + 1) i = iZ (kc c.1) ∧ g_mi M (tx + 2) i = iZ c.2.2.1 ∧ ∃ s q k t q2 k2 : Nat, g_mi M (tx + 3) i = iZ s ∧ g_mi M (tx + 4) i = iZ t ∧ Cm (g_mi M (tx + 5)) (g_mi M (tx + 6)) s q k W c.2.1 ∧ g_mi M (tx + 5) q = 0 ∧ Cm (g_mi M (tx + 5)) (g_mi M (tx + 6)) t q2 k2 W c.2.2.2 ∧ g_mi M (tx + 5) q2 = 0 ∧ k ≤ 51 ∧ k2 ≤ 51 ∧ q < L ∧ q2 < L
def Fq9 (a : Nat) (M M1 : gM) : Prop := ∀ c j, ¬ (c = a ∧ (j = 4 ∨ j = 6 ∨ j = 10 ∨ j = 11)) → ¬ (c = a + 2 ∧ (j = 6 ∨ j = 7)) → (c ≤ a + 2 ∨ a + 10 < c) → g_mi M1 c j = g_mi M c j
theorem Fq9.rf {a : Nat} {M : gM} : Fq9 a M M := fun _ _ _ _ _ => rfl
theorem Fq9.tr {a : Nat} {M M1 M2 : gM} (h : Fq9 a M M1) (h2 : Fq9 a M1 M2) : Fq9 a M M2 := fun c j h3 h4 h5 => (h2 c j h3 h4 h5).trans (h c j h3 h4 h5)
theorem Fc.d {a : Nat} {M M1 : gM} (h : Fc a M M1) : Fq9 a M M1 := fun c j h1 h2 h3 => h c j h1 (by omega) (by omega) (by omega) (by omega) (by omega)
theorem Ct.fd {M M1 : gM} {a : Nat} {cd vl pl tk nb : Nat → Int} {T : Nat} {o : Bool} (h : Fq9 a M M1) (e : Ct M a cd vl pl tk nb T o) : Ct M1 a cd vl pl tk nb T o := by
  refine ⟨e.1, e.2.1, fun i hi => ?_, ?_⟩
  · rw [h _ _ (by omega) (by omega) (by omega), h (a + 13) _ (by omega) (by omega) (by omega), h (a + 12) _ (by omega) (by omega) (by omega)]
    exact e.2.2.1 i hi
  · rw [h _ _ (by omega) (by omega) (by omega)]; exact e.2.2.2
/-- the rows of clauses, but for i, stay -/
def Lk (a i : Nat) (M M1 : gM) : Prop := ∀ j, j ≠ i → g_mi M1 (a + 3) j = g_mi M (a + 3) j ∧ g_mi M1 (a + 4) j = g_mi M (a + 4) j ∧ g_mi M1 (a + 5) j = g_mi M (a + 5) j ∧ g_mi M1 (a + 6) j = g_mi M (a + 6) j
theorem Lk.tr {a i : Nat} {M M1 M2 : gM} (h : Lk a i M M1) (h2 : Lk a i M1 M2) : Lk a i M M2 := fun j hj => ⟨(h2 j hj).1.trans (h j hj).1, (h2 j hj).2.1.trans (h j hj).2.1, (h2 j hj).2.2.1.trans (h j hj).2.2.1, (h2 j hj).2.2.2.trans (h j hj).2.2.2⟩
theorem Fc.rows {a : Nat} {M M1 : gM} (h : Fc a M M1) (c j : Nat) (h1 : a + 3 ≤ c) (h2 : c ≤ a + 6) : g_mi M1 c j = g_mi M c j := h c j (by omega) (by omega) (by omega) (by omega) (by omega) (by omega)
theorem Fc.k {a i : Nat} {M M1 : gM} (h : Fc a M M1) : Lk a i M M1 := fun j _ => ⟨h.rows _ j (by omega) (by omega), h.rows _ j (by omega) (by omega), h.rows _ j (by omega) (by omega), h.rows _ j (by omega) (by omega)⟩
/-- a row of the clauses written at i -/
theorem row_w {a i c0 : Nat} {M : gM} {x : Int32} (h1 : a + 3 ≤ c0) (h2 : c0 ≤ a + 6) : Fq9 a M (g_wi M c0 i x) ∧ (∀ nl len, Lw a nl len M (g_wi M c0 i x)) ∧ Lk a i M (g_wi M c0 i x) ∧ (∀ p l nl len, Cs M a p l nl len → Cs (g_wi M c0 i x) a p l nl len) ∧ g_mi (g_wi M c0 i x) c0 i = x ∧ ∀ c j, c ≠ c0 → g_mi (g_wi M c0 i x) c j = g_mi M c j := by
  refine ⟨fun c j h3 h4 h5 => ?_, fun nl len => ⟨fun j hj => ⟨?_, ?_⟩, fun j hj => ⟨?_, ?_⟩⟩, fun j hj => ⟨?_, ?_, ?_, ?_⟩, fun p l nl len hC => ⟨?_, ?_, ?_, ?_, ?_⟩, ?_, fun c j hc => ?_⟩
  · rw [mi_wi, if_neg (by omega)]
  · rw [mi_wi, if_neg (by omega)]
  · rw [mi_wi, if_neg (by omega)]
  · rw [mi_wi, if_neg (by omega)]
  · rw [mi_wi, if_neg (by omega)]
  · rw [mi_wi, if_neg (by omega)]
  · rw [mi_wi, if_neg (by omega)]
  · rw [mi_wi, if_neg (by omega)]
  · rw [mi_wi, if_neg (by omega)]
  · rw [mi_wi, if_neg (by omega)]; exact hC.1
  · rw [mi_wi, if_neg (by omega)]; exact hC.2.1
  · rw [mi_wi, if_neg (by omega)]; exact hC.2.2.1
  · rw [mi_wi, if_neg (by omega)]; exact hC.2.2.2.1
  · exact ⟨by rw [mi_wi, if_neg (by omega)]; exact hC.2.2.2.2.1, LB.wi (by omega) hC.2.2.2.2.2⟩
  · rw [mi_wi, if_pos ⟨rfl, rfl⟩]
  · rw [mi_wi, if_neg (fun q => hc q.1)]
/-- what stands in the rows of clause i so far -/
def Hd (M : gM) (a i s : Nat) (hd tm : Int) : Prop := g_mi M (a + 3) i = iZ (kc hd) ∧ g_mi M (a + 4) i = iZ tm ∧ g_mi M (a + 5) i = iZ s
theorem Hd.fc {M M1 : gM} {a i s : Nat} {hd tm : Int} (h : Hd M a i s hd tm) (f : Fc a M M1) : Hd M1 a i s hd tm := ⟨by rw [f.rows _ _ (by omega) (by omega)]; exact h.1, by rw [f.rows _ _ (by omega) (by omega)]; exact h.2.1, by rw [f.rows _ _ (by omega) (by omega)]; exact h.2.2⟩
def Wm (M : gM) (a nl : Nat) (o : Bool) : (Nat → Int32) → En → Prop := Wo o (g_mi M (a + 9)) (g_mi M (a + 10)) nl
/-- what is known behind a clause -/
def Cz (M M1 : gM) (a : Nat) (pl : Nat → Int) (T p l nl len i : Nat) (o : Bool) (ex : Nat) (res : Pc) (v : Int32) : Prop := Fq9 a M M1 ∧ Lw a nl len M M1 ∧ Lk a i M M1 ∧ match res with
  | .inl e => v = 0 ∧ g_mi M1 a 6 = iZ (pl e)
  | .inr y => v = 1 ∧ g_mi M1 (a + 2) 6 = iZ ((i + 1 : Nat) : Int) ∧ ∃ nl1 len1, Cs M1 a y.1 y.2.1 nl1 len1 ∧ nl ≤ nl1 ∧ nl1 ≤ y.2.1 ∧ y.1 ≤ T ∧ y.2.1 ≤ 50 ∧ l ≤ y.2.1 ∧ len ≤ len1 ∧ len1 + (T - y.1) ≤ len + (T - p) + ex ∧ Ce M1 (a + 2) (Wm M1 a nl1 o) i y.2.2 len1
section CT
variable {N K a : Nat} {cd vl pl tk nb : Nat → Int} {T : Nat} {o : Bool}
/-- behind a clause's test -/
theorem c_201 {M0 M : gM} {R : Int32 → gM → Prop} {p0 l0 nl0 len0 p l nl len i s q k t k2 : Nat} {hd tm : Int} {S D : Dn} {ex : Nat} (hi : i < 12) (ht : Ct M a cd vl pl tk nb T o) (hC : Cs M a p l nl len) (hp : p ≤ T) (hl : l ≤ 50) (hnl : nl ≤ l) (hs : len + (T - p) < 460) (f0 : Fq9 a M0 M) (w0 : Lw a nl0 len0 M0 M) (k0 : Lk a i M0 M) (e1 : nl0 ≤ nl) (e2 : len0 ≤ len) (e3 : l0 ≤ l) (e4 : len + 1 + (T - p) ≤ len0 + (T - p0) + ex) (hH : Hd M a i s hd tm) (h6 : g_mi M (a + 6) i = iZ t) (cS : Cmm M a nl o s q k S) (sq : g_mi M (a + 7) q = 0) (hq : q < len) (hk : k ≤ 51) (cD : Cmm M a nl o t len k2 D) (hk2 : k2 ≤ 51) (hR : ∀ M1 v, Cz M0 M1 a pl T p0 l0 nl0 len0 i o ex (.inr (p, l, hd, S, tm, D)) v → R v M1) : pX2_readClause_201 N K R M a (iZ i) := by
  unfold pX2_readClause_201
  refine put_ok hC (by omega) (fun M1 f1 w1 C1 s1 s2 M2 hM2 => ?_)
  rw [iZ_s1] at hM2
  have g2 : ∀ c j, g_mi M2 c j = if c = a + 2 ∧ j = 6 then iZ ((i + 1 : Nat) : Int) else g_mi M1 c j := fun c j => by rw [hM2, mi_wi]
  have gg : ∀ c j, c ≠ a + 2 → g_mi M2 c j = g_mi M1 c j := fun c j hc => by rw [g2, if_neg (fun z => hc z.1)]
  have gf : ∀ c, c ≠ a + 2 → g_mi M2 c = g_mi M1 c := fun c hc => by funext j; exact gg c j hc
  have w2 : Lw a nl (len + 1) M1 M2 := ⟨fun j hj => ⟨gg _ _ (by omega), gg _ _ (by omega)⟩, fun j hj => ⟨gg _ _ (by omega), gg _ _ (by omega)⟩⟩
  have hH1 := hH.fc f1
  have c1 : Cmm M2 a nl o s q k S := Cmm.lw (Cmm.lw cS w1 (by omega) (Nat.le_refl _)) w2 (by omega) (Nat.le_refl _)
  have c2 : Cmm M2 a nl o t len k2 D := Cmm.lw (Cmm.lw cD w1 (Nat.le_refl _) (Nat.le_refl _)) w2 (by omega) (Nat.le_refl _)
  refine hR M2 1 ⟨f0.tr (f1.d.tr (fun c j h3 h4 h5 => by rw [g2, if_neg (by omega)])), (w0.tr w1 e1 e2).tr w2 e1 (by omega), (k0.tr f1.k).tr (fun j _ => ⟨gg _ _ (by omega), gg _ _ (by omega), gg _ _ (by omega), gg _ _ (by omega)⟩), rfl, by rw [g2, if_pos ⟨rfl, rfl⟩], nl, len + 1, ⟨?_, ?_, ?_, ?_, ?_⟩, e1, hnl, hp, hl, e3, by omega, e4, ?_, ?_, s, q, k, t, len, k2, ?_, ?_, c1, ?_, c2, ?_, hk, hk2, by omega, by omega⟩
  · rw [gg _ _ (by omega)]; exact C1.1
  · rw [gg _ _ (by omega)]; exact C1.2.1
  · rw [gg _ _ (by omega)]; exact C1.2.2.1
  · rw [g2, if_neg (by omega)]; exact C1.2.2.2.1
  · exact ⟨by rw [gg _ _ (by omega)]; exact C1.2.2.2.2.1, fun i hi => by rw [gg _ _ (by omega)]; exact C1.2.2.2.2.2 i hi⟩
  · show g_mi M2 (a + 3) i = _; rw [gg _ _ (by omega)]; exact hH1.1
  · show g_mi M2 (a + 4) i = _; rw [gg _ _ (by omega)]; exact hH1.2.1
  · show g_mi M2 (a + 5) i = _; rw [gg _ _ (by omega)]; exact hH1.2.2
  · show g_mi M2 (a + 6) i = _; rw [gg _ _ (by omega), f1.rows _ _ (by omega) (by omega)]; exact h6
  · show g_mi M2 (a + 7) q = 0; rw [gg _ _ (by omega), (w1.1 q hq).1]; exact sq
  · show g_mi M2 (a + 7) len = 0; rw [gg _ _ (by omega)]; exact s1
theorem c_test {M0 M : gM} {R : Int32 → gM → Prop} {p0 l0 nl0 len0 p l nl len i s q k : Nat} {hd tm : Int} {S : Dn} (hK : 500 ≤ K) (hi : i < 12) (ht : Ct M a cd vl pl tk nb T o) (hC : Cs M a p l nl len) (hp : p ≤ T) (hl : l ≤ 50) (hnl : nl ≤ l) (hs : len0 + (T - p0) ≤ 450) (f0 : Fq9 a M0 M) (w0 : Lw a nl0 len0 M0 M) (k0 : Lk a i M0 M) (e1 : nl0 ≤ nl) (e2 : len0 ≤ len) (e3 : l0 ≤ l) (e4 : len + (T - p) ≤ len0 + (T - p0) + 1) (hH : Hd M a i s hd tm) (cS : Cmm M a nl o s q k S) (sq : g_mi M (a + 7) q = 0) (hq : q < len) (hk : k ≤ 51) (hR : ∀ M1 v, Cz M0 M1 a pl T p0 l0 nl0 len0 i o 3 (cTest cd vl o p l hd S tm) v → R v M1) : pX2_readClause_144 N K R M a (iZ i) := by
  obtain ⟨b1, b2, b3, b4, b5, b6, b7, b8, b9, b10, _⟩ := ct_c ht hp
  unfold pX2_readClause_144
  rw [show a + 2 + 4 = a + 6 from rfl, hC.2.2.2.1, iZ_cl (show i < 2147483648 by omega)]
  refine ⟨iZ_in (by omega) (by omega) (by omega), fun M1 hM1 => ?_⟩
  obtain ⟨r1, r2, r3, r4, r5, r6⟩ := row_w (a := a) (i := i) (c0 := a + 6) (M := M) (x := iZ (len : Int)) (by omega) (by omega)
  rw [← hM1] at r1 r2 r3 r4 r5 r6
  have C1 := r4 _ _ _ _ hC
  have ht1 := ht.fd r1
  have f1 := f0.tr r1
  have w1 : Lw a nl0 len0 M0 M1 := w0.tr (r2 nl0 len0) (Nat.le_refl _) (Nat.le_refl _)
  have k1 := k0.tr r3
  have hH1 : Hd M1 a i s hd tm := ⟨by rw [r6 _ _ (by omega)]; exact hH.1, by rw [r6 _ _ (by omega)]; exact hH.2.1, by rw [r6 _ _ (by omega)]; exact hH.2.2⟩
  have cS1 : Cmm M1 a nl o s q k S := Cmm.lw cS (r2 nl len) (by omega) (Nat.le_refl _)
  have sq1 : g_mi M1 (a + 7) q = 0 := by rw [r6 _ _ (by omega)]; exact sq
  have t18 : g_mi M1 (a + 11) p = iZ (tk p) := (ct_c ht1 hp).2.2.1
  have k18 : (iZ (tk p) = 18) = (cd p = 3) := by rw [iZ_l18]; exact tkz ht hp (fun x y h => by unfold TV at h; omega) (by omega) (by omega)
  rw [C1.1, b2, t18, k18]
  unfold cTest at hR
  refine ⟨b1, fun c => ?_, fun c => ?_⟩
  · rw [if_pos c] at hR
    have pp := tk_lt ht.2.1 hp (by omega)
    refine pass_ok ht1 C1 (by omega) (fun M2 n2 C2 => ?_)
    obtain ⟨res, hres⟩ := PPs (vl := vl) (o := o) (h := 0) (a := kD 0) (q := false) ht.2.1 ht.1 (by decide) pp hl
    rw [hres] at hR
    have hx := PP_in ht.2.1 _ _ _ _ _ _ _ _ (by decide) hres pp hl
    have f2 := f1.tr n2.1.d
    have w2 := w1.tr (n2.2 nl0 len0) (Nat.le_refl _) (Nat.le_refl _)
    refine (CP_all 480).1 0 0 (p + 1) l (kD 0) false res (by decide) hres K M2 _ 0 0 len nl len l (by omega) (ht1.fc n2.1) C2 pp hl hnl (by omega) (by omega) (fun z => absurd z (by decide)) (by decide) (fun _ => ⟨rfl, rfl⟩) (fun M3 v3 c3 => ?_)
    obtain ⟨f3, w3, c4⟩ := c3
    cases res with
    | inl e =>
      obtain ⟨c5, c6⟩ := c4
      subst c5
      exact ⟨fun z => absurd rfl z, fun _ => hR M3 0 ⟨f2.tr f3.d, w2.tr w3 e1 e2, (k1.tr n2.1.k).tr f3.k, rfl, c6⟩⟩
    | inr y =>
      obtain ⟨c5, nl3, len3, C3, g1, g2, g3, g4, g5⟩ := c4
      subst c5
      have hy1 : p + 1 ≤ y.1 := hx.1
      have hy2 : y.1 ≤ T := hx.2.1
      have hy3 : y.2.1 ≤ 50 := hx.2.2.2
      have hy4 : l ≤ y.2.1 := hx.2.2.1
      refine ⟨fun _ => ?_, fun z => absurd z one0⟩
      have w13 : Lw a nl len M1 M3 := (n2.2 nl len).tr w3 (Nat.le_refl _) (Nat.le_refl _)
      exact c_201 hi ((ht1.fc n2.1).fc f3) C3 hy2 hy3 g2 (by omega) (f2.tr f3.d) (w2.tr w3 e1 e2) ((k1.tr n2.1.k).tr f3.k) (by omega) (by omega) (by omega) (by omega) ((hH1.fc n2.1).fc f3) (by rw [f3.rows _ _ (by omega) (by omega), n2.1.rows _ _ (by omega) (by omega)]; exact r5) (Cmm.lw cS1 w13 (by omega) g1) (by rw [(w13.1 q hq).1]; exact sq1) (by omega) hk g5 (by omega) hR
  · rw [if_neg c] at hR
    refine put_ok C1 (by omega) (fun M2 f2 w2 C2 s1 s2 => ?_)
    refine c_201 (k2 := 1) hi (ht1.fc f2) C2 hp hl hnl (by omega) (f1.tr f2.d) (w1.tr w2 e1 e2) (k1.tr f2.k) e1 (by omega) e3 (by omega) (hH1.fc f2) (by rw [f2.rows _ _ (by omega) (by omega)]; exact r5) (Cmm.lw cS1 w2 (by omega) (Nat.le_refl _)) (by rw [(w2.1 q hq).1]; exact sq1) (by omega) hk ?_ (by omega) hR
    exact Cm_k (v := 1) s1 s2 (by omega) (by omega)
theorem c_103 {M0 M : gM} {R : Int32 → gM → Prop} {p0 l0 nl0 len0 p l nl len i s k : Nat} {hd : Int} {S : Dn} (hK : 500 ≤ K) (hi : i < 12) (ht : Ct M a cd vl pl tk nb T o) (hC : Cs M a p l nl len) (hp : p ≤ T) (hl : l ≤ 50) (hnl : nl ≤ l) (hs : len0 + (T - p0) ≤ 450) (f0 : Fq9 a M0 M) (w0 : Lw a nl0 len0 M0 M) (k0 : Lk a i M0 M) (e1 : nl0 ≤ nl) (e2 : len0 ≤ len) (e3 : l0 ≤ l) (e4 : len + (T - p) ≤ len0 + (T - p0)) (hH : Hd M a i s hd 1) (cS : Cmm M a nl o s len k S) (hk : k ≤ 51) (hR : ∀ M1 v, Cz M0 M1 a pl T p0 l0 nl0 len0 i o 3 (cTimes cd vl o p l hd S) v → R v M1) : pX2_readClause_103 N K R M a (iZ i) := by
  unfold pX2_readClause_103
  refine put_ok hC (by omega) (fun M1 f1 w1 C1 s1 s2 => ?_)
  have ht1 := ht.fc f1
  obtain ⟨b1, b2, b3, b4, b5, b6, b7, b8, b9, b10, _⟩ := ct_c ht1 hp
  have fa := f0.tr f1.d
  have wa := w0.tr w1 e1 e2
  have ka := k0.tr f1.k
  have cS1 := Cmm.lw cS w1 (Nat.le_refl _) (Nat.le_refl _)
  have k17 : (iZ (tk p) = 17) = (cd p = 22) := by rw [iZ_l17]; exact tkz ht hp (fun x y h => by unfold TV at h; omega) (by omega) (by omega)
  rw [ht1.2.2.2, iB_0, C1.1, b2, b3, k17]
  unfold cTimes at hR
  have plain : ¬ (o = true ∧ cd p = 22) → pX2_readClause_144 N K R M1 a (iZ i) := fun c => by
    rw [if_neg c] at hR
    exact c_test hK hi ht1 C1 hp hl hnl hs fa wa ka e1 (by omega) e3 (by omega) (hH.fc f1) cS1 s1 (by omega) hk hR
  refine ⟨fun ho => plain (fun z => by rw [ho] at z; cases z.1), fun ho => ⟨b1, fun c => plain (fun z => c z.2), fun c => ?_⟩⟩
  have oo : o = true := by cases o with | true => rfl | false => exact absurd rfl ho
  rw [if_pos ⟨oo, c⟩] at hR
  have pp := tk_lt ht.2.1 hp (by omega)
  unfold pX2_readTimes
  refine pass_ok ht1 C1 (by omega) (fun M2 n2 C2 => ?_)
  have ht2 := ht1.fc n2.1
  obtain ⟨d1, d2, d3, d4, d5, d6, d7, d8, d9, d10, d11, d12⟩ := ct_c ht2 pp
  have fb := fa.tr n2.1.d
  have wb := wa.tr (n2.2 nl0 len0) (Nat.le_refl _) (Nat.le_refl _)
  have kb := ka.tr n2.1.k
  have n1 : (iZ (nb (p + 1)) < 1) = (nb (p + 1) < 1) := by rw [iZ_l1, iZ_lt (by omega) (by omega) (by omega) (by omega)]
  have n20 : (iZ (nb (p + 1)) ≤ 20) = (nb (p + 1) ≤ 20) := by rw [iZ_l20, iZ_le (by omega) (by omega) (by omega) (by omega)]
  rw [C2.1, d2, d4, n1, n20, show a + 2 + 2 = a + 4 from rfl, iZ_cl (show i < 2147483648 by omega)]
  have hv := (ht.2.2.1 (p + 1) pp).2.2.2.1
  unfold NB at d8
  have bad : ¬ (cd (p + 1) = 50 ∧ 1 ≤ vl (p + 1) ∧ vl (p + 1) ≤ 20) → pX2_fail N K M2 a (fun v1 M3 => (v1 = 0 ∨ v1 = 1) ∧ ((¬ v1 = 0 → pX2_readClause_144 N K R M3 a (iZ i)) ∧ (v1 = 0 → R 0 M3))) := fun c2 => by
    rw [if_neg c2] at hR
    exact fail_ok ht2 C2.1 pp (fun M3 n3 e6 => ⟨Or.inl rfl, fun z => absurd rfl z, fun _ => hR M3 0 ⟨fb.tr n3.1.d, wb.tr (n3.2 nl0 len0) (Nat.le_refl _) (Nat.le_refl _), kb.tr n3.1.k, rfl, e6⟩⟩)
  refine ⟨d1, fun z => bad (by omega), fun z => ⟨fun z2 => ⟨iZ_in (by omega) (by omega) (by omega), fun M3 hM3 => ?_⟩, fun z2 => bad (by omega)⟩⟩
  have good : cd (p + 1) = 50 ∧ 1 ≤ vl (p + 1) ∧ vl (p + 1) ≤ 20 := by omega
  rw [if_pos good] at hR
  have en : nb (p + 1) = vl (p + 1) := by omega
  have p2 := tk_lt (p := p + 1) ht.2.1 pp (by omega)
  obtain ⟨r1, r2, r3, r4, r5, r6⟩ := row_w (a := a) (i := i) (c0 := a + 4) (M := M2) (x := iZ (nb (p + 1))) (by omega) (by omega)
  rw [← hM3] at r1 r2 r3 r4 r5 r6
  have C3 := r4 _ _ _ _ C2
  refine pass_ok (ht2.fd r1) C3 (by omega) (fun M4 n4 C4 => ⟨fun _ => ?_, fun z => absurd z one0⟩)
  have hH2 := (hH.fc f1).fc n2.1
  have hH3 : Hd M3 a i s hd (vl (p + 1)) := ⟨by rw [r6 _ _ (by omega)]; exact hH2.1, by rw [r5, en], by rw [r6 _ _ (by omega)]; exact hH2.2.2⟩
  have w14 : Lw a nl (len + 1) M1 M4 := ((n2.2 nl (len + 1)).tr (r2 nl (len + 1)) (Nat.le_refl _) (Nat.le_refl _)).tr (n4.2 nl (len + 1)) (Nat.le_refl _) (Nat.le_refl _)
  exact c_test hK hi ((ht2.fd r1).fc n4.1) C4 p2 hl hnl hs ((fb.tr r1).tr n4.1.d) ((wb.tr (r2 nl0 len0) (Nat.le_refl _) (Nat.le_refl _)).tr (n4.2 nl0 len0) (Nat.le_refl _) (Nat.le_refl _)) ((kb.tr r3).tr n4.1.k) e1 (by omega) e3 (by omega) (hH3.fc n4.1) (Cmm.lw cS1 w14 (by omega) (Nat.le_refl _)) (by rw [(w14.1 len (by omega)).1]; exact s1) (by omega) hk hR
end CT
