/-! Calls: law. -/
def Snn (b e : Nat) (M M1 : gM) : Prop := (∀ c, c < b → g_kd M1 c = g_kd M c) ∧ ∀ c, c < b → c ≠ e → g_mr M1 c = g_mr M c
theorem TL.lt {M : gM} {x B : Nat} {cs : List (Nat × Cl)} (h : TL M x cs) (hfr : ∀ c, g_kd M c ≠ none → c < B) : x + 6 < B := by
  have a := h.1
  unfold TxO Tx at a
  exact hfr _ (by rw [a.2.2.2.2.2.2.2.2.2.2.2.2]; simp)
theorem TL.n {M M1 : gM} {b e x : Nat} {cs : List (Nat × Cl)} (h : TL M x cs) (hs : Snn b e M M1) (hx : x + 6 < b) (he : x ≠ e) (k : ∀ c, x ≤ c → c ≤ x + 6 → g_mi M1 c = g_mi M c) : TL M1 x cs := by
  have e1 : kl M1 (x + 1) = kl M (x + 1) := by unfold kl; rw [hs.1 (x + 1) (by omega)]
  have e5 : kl M1 (x + 5) = kl M (x + 5) := by unfold kl; rw [hs.1 (x + 5) (by omega)]
  obtain ⟨a1, a2⟩ := h
  unfold TL TxO at *
  rw [e1, e5]
  refine ⟨?_, a2.keep k⟩
  unfold Tx at a1 ⊢
  rw [hs.1 x (by omega), hs.1 (x + 1) (by omega), hs.1 (x + 2) (by omega), hs.1 (x + 3) (by omega), hs.1 (x + 4) (by omega), hs.1 (x + 5) (by omega), hs.1 (x + 6) (by omega), hs.2 x (by omega) he]
  exact a1
theorem Mo.k23 {M : gM} {a : Nat} (h : Mo M a) : g_kd M (a + 23) = some (100, 40) := h.2.2.2.2.2.2.2.2.2.2.2.2.2.2.2.2.2.2.2.2.2.2.2.2.2.2.2.2.2.2.2.2.2.2.2.2.2.2.2.2.2.2.2.2.2.2
theorem Mo.n {M M1 : gM} {b e a : Nat} (h : Mo M a) (hs : Snn b e M M1) (ha : a + 23 < b) (he : a ≠ e) : Mo M1 a := by
  unfold Mo at h ⊢
  rw [hs.1 a (by omega), hs.1 (a + 1) (by omega), hs.1 (a + 2) (by omega), hs.1 (a + 3) (by omega), hs.1 (a + 4) (by omega), hs.1 (a + 5) (by omega), hs.1 (a + 6) (by omega), hs.1 (a + 7) (by omega), hs.1 (a + 8) (by omega), hs.1 (a + 9) (by omega), hs.1 (a + 10) (by omega), hs.1 (a + 11) (by omega), hs.1 (a + 12) (by omega), hs.1 (a + 13) (by omega), hs.1 (a + 14) (by omega), hs.1 (a + 15) (by omega), hs.1 (a + 16) (by omega), hs.1 (a + 17) (by omega), hs.1 (a + 18) (by omega), hs.1 (a + 19) (by omega), hs.1 (a + 20) (by omega), hs.1 (a + 21) (by omega), hs.1 (a + 22) (by omega), hs.1 (a + 23) (by omega), hs.2 a (by omega) he]
  exact h
theorem LwO.n {M M1 : gM} {b e w : Nat} (h : LwO M w) (hs : Snn b e M M1) (hfr : ∀ c, g_kd M c ≠ none → c < b) (hw : w < b) (he : w ≠ e) : LwO M1 w := fun i v hv => by
  rw [hs.2 w hw he] at hv
  have := h i v hv
  rw [hs.1 v (hfr v (by rw [this]; simp))]
  exact this
theorem CW.n {M M1 : gM} {b e lo w : Nat} {r : Nat → Int} {lw : LWs} (h : CW M lo w r lw) (hs : Snn b e M M1) (hfr : ∀ c, g_kd M c ≠ none → c < b) (hw : w + 10 < b) (he : w + 10 ≠ e) (hl : e < lo) (k1 : ∀ c, w ≤ c → c ≤ w + 9 → g_mi M1 c = g_mi M c) (k2 : ∀ c, lo ≤ c → c < b → g_mi M1 c = g_mi M c) : CW M1 lo w r lw := by
  obtain ⟨a1, a2, a3, a4, a5, a6⟩ := h
  refine ⟨a1.keep (fun c q1 q2 => k1 c (by omega) (by omega)), ?_, ?_, ?_, fun i hi => ?_, fun t ht => ?_⟩
  · rw [k1 w (by omega) (by omega)]; exact a2
  · rw [k1 w (by omega) (by omega)]; exact a3
  · rw [k1 w (by omega) (by omega)]; exact a4
  · rw [k1 (w + 8) (by omega) (by omega), k1 (w + 9) (by omega) (by omega)]; exact a5 i hi
  · obtain ⟨x, x1, x2, x3⟩ := a6 t ht
    have := x3.lt hfr
    exact ⟨x, x1, by rw [hs.2 _ hw he]; exact x2, x3.n hs this (by omega) (fun c q1 q2 => k2 c (by omega) (by omega))⟩
section RFM
variable {N K A : Nat} {M : gM} {R : Int32 → gM → Prop}
theorem rf_m5 (h : pX8_refuse N K M A (-5) R) : R (-5) (mX8_refuse M A (-5)) := by
  unfold pX8_refuse at h
  have h6 := (h _ rfl).1 rfl _ rfl
  unfold mX8_refuse
  rw [if_pos rfl]
  exact h6
theorem rf_m6 (h : pX8_refuse N K M A (-6) R) : R (-6) (mX8_refuse M A (-6)) := by
  unfold pX8_refuse at h
  have h6 := (((((h _ rfl).2 (by decide)).2 (by decide)).2 (by decide)).2 (by decide)).2 (by decide) _ rfl
  unfold mX8_refuse
  rw [if_neg (by decide), if_neg (by decide), if_neg (by decide), if_neg (by decide), if_neg (by decide)]
  exact h6
end RFM
/-- a text read, trimmed, is a law -/
theorem tr_Te {M1 M2 M5 : gM} {a b nl1 len1 : Nat} {cs : List (Nat × Cl)} {x y : Int32} (hl : cs.length ≤ 12) (h460 : len1 ≤ 460) (hC : ∀ j c, cs[j]? = some c → Ce M1 (a + 2) (Wm M1 a nl1 false) j c.2 len1) (hx : x = iZ cs.length) (hy : y = iZ len1) (hc : TxC M1 M2 (a + 2) b cs.length len1 x y) (ht : Tx M2 b cs.length len1) (k : ∀ c, b ≤ c → c ≤ b + 6 → g_mi M5 c = g_mi M2 c ∧ g_kd M5 c = g_kd M2 c) (kr : g_mr M5 b = g_mr M2 b) : TL M5 b cs := by
  have n1 : kl M5 (b + 1) = cs.length := by unfold kl; rw [(k (b + 1) (by omega) (by omega)).2, ht.2.2.1]
  have n5 : kl M5 (b + 5) = len1 := by unfold kl; rw [(k (b + 5) (by omega) (by omega)).2, ht.2.2.2.2.2.2.2.2.2.2.1]
  unfold TL TxO
  rw [n1, n5]
  refine ⟨?_, ?_⟩
  · unfold Tx at ht ⊢
    rw [(k b (by omega) (by omega)).2, (k (b + 1) (by omega) (by omega)).2, (k (b + 2) (by omega) (by omega)).2, (k (b + 3) (by omega) (by omega)).2, (k (b + 4) (by omega) (by omega)).2, (k (b + 5) (by omega) (by omega)).2, (k (b + 6) (by omega) (by omega)).2, kr]
    exact ht
  · obtain ⟨c1, c2, c3, c4⟩ := hc
    refine ⟨Nat.le_refl _, hl, h460, by rw [(k b (by omega) (by omega)).1, c3, hx], len1, by rw [(k b (by omega) (by omega)).1, c4, hy], Nat.le_refl _, fun j c hj => ?_⟩
    have jl : j < cs.length := (List.getElem?_eq_some_iff.mp hj).1
    obtain ⟨e1, e2, s, q, kk, t, q2, k2, e3, e4, e5, e6, e7, e8, e9, e10, e11, e12⟩ := hC j c hj
    have r4 : ∀ i, 1 ≤ i → i ≤ 4 → g_mi M5 (b + i) j = g_mi M1 (a + 2 + i) j := fun i i1 i4 => by rw [(k (b + i) (by omega) (by omega)).1]; exact c1 i i1 i4 j jl
    have r6 : ∀ i, 5 ≤ i → i ≤ 6 → ∀ p, p < len1 → g_mi M5 (b + i) p = g_mi M1 (a + 2 + i) p := fun i i1 i6 p hp => by rw [(k (b + i) (by omega) (by omega)).1]; exact c2 i i1 i6 p hp
    have hW : ∀ w e, Wl w e → Wm M1 a nl1 false w e := fun w e h => ⟨h.1, fun _ => h.2, fun ho => (by cases ho)⟩
    refine ⟨by rw [r4 1 (by omega) (by omega)]; exact e1, by rw [r4 2 (by omega) (by omega)]; exact e2, s, q, kk, t, q2, k2, by rw [r4 3 (by omega) (by omega)]; exact e3, by rw [r4 4 (by omega) (by omega)]; exact e4, e5.cg (fun i h1 h2 => ⟨r6 5 (by omega) (by omega) i (by omega), r6 6 (by omega) (by omega) i (by omega)⟩) hW, by rw [r6 5 (by omega) (by omega) q (by omega)]; exact e6, e7.cg (fun i h1 h2 => ⟨r6 5 (by omega) (by omega) i (by omega), r6 6 (by omega) (by omega) i (by omega)⟩) hW, by rw [r6 5 (by omega) (by omega) q2 (by omega)]; exact e8, e9, e10, e11, e12⟩
section OBW
variable {X : gX} {A : Nat}
theorem Fr2.kee {M M1 : gM} {r : Nat → Int} {lw : LWs} {H : List ((Nat → Int) × Int)} {im : Nat → Option (Nat → Int)} {ilw : Nat → LWs} {bt : Nat → Int} {ln : Nat} {fr dr ms : Nat → Int32} {f6 : Int32} (hc : IC M A r lw H im ilw bt ln fr dr ms) (hs : Sl M M1) (k : Fr2 (A + 282) M M1) (h5 : g_mi M1 (A + 282) 5 = 0) (h6 : g_mi M1 (A + 282) 6 = f6) : IC M1 A r lw H im ilw bt 0 fr dr (va_up ms 1 f6) := by
  have kc : ∀ c, c ≠ A + 282 → (c ≤ A + 283 ∨ A + 295 < c) → g_mi M1 c = g_mi M c := fun c q1 q2 => by funext j; exact k c j (Or.inl q1) (by omega)
  refine hc.mix hs (fun c q => kc c (by omega) (by omega)) (hc.2.1.keep hs (fun c q1 q2 => kc c (by omega) (by omega)) (fun c q => kc c (by omega) (by omega))) (hc.2.2.2.1.keep (fun c q1 q2 => kc c (by omega) (by omega))) (hc.2.2.2.2.1.keep (by rw [kc _ (by omega) (by omega)])) ⟨by omega, h5, fun i hi => by omega⟩ (hc.2.2.2.2.2.2.2.1.kp (kc _ (by omega) (by omega))) (hc.2.2.2.2.2.2.2.2.1.kp (kc _ (by omega) (by omega))) ⟨?_, h6, ?_, ?_⟩
  · rw [kc _ (by omega) (by omega)]; exact hc.2.2.2.2.2.2.2.2.2.1
  · rw [kc _ (by omega) (by omega)]; exact hc.2.2.2.2.2.2.2.2.2.2.2.1
  · rw [kc _ (by omega) (by omega)]; exact hc.2.2.2.2.2.2.2.2.2.2.2.2
theorem Fr9.kee {M M1 : gM} {b : Nat} {r : Nat → Int} {H : List ((Nat → Int) × Int)} {im : Nat → Option (Nat → Int)} {bt : Nat → Int} {ln : Nat} {fr dr ms : Nat → Int32} {f6 : Int32} (hr : IR M b r H im bt ln fr dr ms) (hs : Sl M M1) (k : Fr9 b M M1) (h13 : g_mi M1 b 13 = 0) (h14 : g_mi M1 b 14 = f6) : IR M1 b r H im bt 0 fr dr (va_up ms 1 f6) := by
  have kc : ∀ c, c ≠ b → (c < b + 9 ∨ b + 11 < c) → g_mi M1 c = g_mi M c := fun c q1 q2 => by funext j; exact k c j (by omega) (by omega) (by omega) (Or.inl q1)
  have k0 : ∀ j, (j = 0 ∨ j = 6 ∨ j = 38 ∨ j = 40 ∨ j = 48) → g_mi M1 b j = g_mi M b j := fun j q => k b j (by omega) (by omega) (by omega) (by omega)
  refine hr.mix hs (fun c q => kc c (by omega) (by omega)) (hr.2.1.kp (kc _ (by omega) (by omega))) (hr.2.2.1.keep (k0 _ (by omega)) (kc _ (by omega) (by omega))) ⟨by omega, fun i hi => by omega⟩ h13 (hr.2.2.2.2.2.1.kp (kc _ (by omega) (by omega))) (hr.2.2.2.2.2.2.1.kp (k0 _ (by omega)) (kc _ (by omega) (by omega))) ⟨?_, h14, ?_, ?_⟩
  · rw [k0 _ (by omega)]; exact hr.2.2.2.2.2.2.2.1
  · rw [k0 _ (by omega)]; exact hr.2.2.2.2.2.2.2.2.2.1
  · rw [k0 _ (by omega)]; exact hr.2.2.2.2.2.2.2.2.2.2
theorem Rm.u {M : gM} {b : Nat} {bt : Nat → Int} {len : Nat} {v : Int32} {res : Nat ⊕ List (Nat × Cl)} (h : Rm M b bt len v res) : (∃ e, res = .inl e ∧ v = 0 ∧ g_mi M b 14 = iZ (tkp bt len e)) ∨ ∃ cs, res = .inr cs ∧ v = 1 ∧ g_mi M b 14 = iZ (-1) := by
  cases res with
  | inl e => exact Or.inl ⟨e, rfl, h.1, h.2⟩
  | inr cs => exact Or.inr ⟨cs, rfl, h.1, h.2⟩
theorem ob_law : Ob X 1311 7 976 kX8_law kX9_law (INV A) A (A + 329) [] := by
  intro M hI hfr
  obtain ⟨r, lw, H, im, ilw, bt, ln, fr, dr, ms, hp, hc, hr⟩ := hI
  refine ⟨hc.1.1, fun Q hQ => ?_⟩
  have hv := hp.1
  have lb := hv.l
  have h5 : g_mi M (A + 1) 5 = iZ (r 203) := hc.2.1.2.2.1
  have c6 : ((6 : Int32) ≤ g_mi M (A + 1) 5) = (6 ≤ r 203) := by rw [h5, iZ_l6, iZ_le (by omega) (by omega) (by omega) (by omega)]
  have hT := hc.2.2.2.2.2.2.1
  have big : A + 353 ≤ g_nx M := by have := hfr (A + 329 + 23) (by rw [hr.1.k23]; simp); omega
  have n6 : (-6 : Int32) = iZ (-6) := by rw [iZ_l6, iZ_neg]
  refine Cn.cd (show 14 + 1290 + 7 = 1311 by omega) (uX8_law (N := 20000) (K := 1290) (d := 14) (R2 := fun v M1 => Fr2 (A + 282) M M1 ∧ g_mi M1 (A + 282) 5 = 0 ∧ Rc M1 (A + 282) bt ln false v (RD bt ln false)) hc.1 rfl hfr (fun _ => c_read (o := false) (by omega) (by omega) hT (fun M1 v f1 e1 r1 => ⟨f1, e1, r1⟩)) (fun v1 M1 hn sm r2 hv1 => ?_) (fun h => ?_) (fun v1 M1 hn sm r2 hv1 => ?_))
  · obtain ⟨f1, e5, rc⟩ := r2
    rw [c6] at hn
    cases hR : RD bt ln false with
    | inl e => rw [hR] at rc; exact absurd rc.1 hv1
    | inr cs =>
      rw [hR] at rc
      obtain ⟨_, e6, l12, sz, nl1, len1, l460, l50, ln1, _, hCe⟩ := rc
      obtain ⟨_, _, hcb⟩ := RD_B (o := false) hT.1 (fun i hi => (hT.2.2 i hi).2) hR
      obtain ⟨t, ht⟩ := Int.eq_ofNat_of_zero_le lb.1
      have ht2 : r 203 = (t : Int) := ht
      have v5 : g_mi M1 (A + 1) 5 = iZ (t : Int) := by rw [f1 _ _ (by omega) (by omega), h5, ht2]
      refine ⟨cs.length, len1, iZ cs.length, iZ len1, iZ (t : Int), sz, ln1, v5, ⟨iZ_cl (by omega), iZ_cl (by omega), by rw [iZ_l0, iZ_lt (by omega) (by omega) (by omega) (by omega)]; omega, by rw [iZ_l0, iZ_lt (by omega) (by omega) (by omega) (by omega)]; omega, l12, l460, iZ_in (by omega) (by omega) (by omega)⟩, fun M2 hF hn2 hTx hTc v52 => ?_⟩
      rw [iZ_cl (show t < 2147483648 by omega), iZ_s1, show iZ ((t + 1 : Nat) : Int) - 1 = iZ (t : Int) by rw [iZ_m1 (by omega)]; rfl]
      unfold fX8_accept mX8_accept
      generalize h3 : g_wr M2 (A + 1 + 10) t (some (g_nx M)) = M3
      generalize h4 : g_wi M3 (A + 1) 5 (iZ ((t + 1 : Nat) : Int)) = M4
      generalize h7 : g_wi M4 A 16 0 = M5
      have kd5 : g_kd M5 = g_kd M2 := by rw [← h7, ← h4, ← h3]; rfl
      have mr5 : ∀ c j, g_mr M5 c j = if c = A + 1 + 10 ∧ j = t then some (g_nx M) else g_mr M2 c j := fun c j => by
        rw [← h7, ← h4, ← h3]
        rfl
      have mi3 : g_mi M3 = g_mi M2 := by rw [← h3]; rfl
      obtain ⟨a1, a2, a3⟩ := wi_k h4.symm
      obtain ⟨d1, d2, d3⟩ := wi_k h7.symm
      have i5 : ∀ c, c ≠ A → c ≠ A + 1 → g_mi M5 c = g_mi M2 c := fun c q1 q2 => by rw [d1 c q1, a1 c q2, mi3]
      have kk : ∀ c, c < g_nx M → c ≠ A → c ≠ A + 1 → c ≠ A + 282 → (c ≤ A + 283 ∨ A + 295 < c) → g_mi M5 c = g_mi M c := fun c q0 q1 q2 q3 q4 => by
        rw [i5 c q1 q2, (hF c q0).2.2.1]
        funext j
        exact f1 c j (Or.inl q3) (by omega)
      have kA : ∀ j, j ≠ 16 → g_mi M5 A j = g_mi M A j := fun j q => by rw [d2 j q, a1 _ (by omega), mi3, (hF A (by omega)).2.2.1, f1 _ _ (by omega) (by omega)]
      have k1 : ∀ j, j ≠ 5 → g_mi M5 (A + 1) j = g_mi M (A + 1) j := fun j q => by rw [d1 _ (by omega), a2 j q, mi3, (hF (A + 1) (by omega)).2.2.1, f1 _ _ (by omega) (by omega)]
      have sn : Snn (g_nx M) (A + 1 + 10) M M5 := ⟨fun c hc => by rw [kd5, (hF c hc).1, sm.1], fun c hc he => by funext j; rw [mr5, if_neg (by omega), (hF c hc).2.1, sm.2.1]⟩
      have hm5 : Mo M5 (A + 329) := hr.1.n sn (by omega) (by omega)
      have hr5 : IR M5 (A + 329) r H im bt ln fr dr ms := hr.kex hm5 (fun c q1 q2 => kk c (by omega) (by omega) (by omega) (by omega) (by omega))
      have tl5 : TL M5 (g_nx M) cs := tr_Te (M1 := M1) (M2 := M2) (a := A + 282) l12 l460 hCe rfl rfl hTc hTx (fun c q1 q2 => ⟨i5 c (by omega) (by omega), by rw [kd5]⟩) (by funext j; rw [mr5, if_neg (by omega)])
      have hphs : Ph M5 A := by
        have s1 : Sq M M1 := Sm.sq sm
        have s2 : Sq M1 M2 := Sq.fr hF (fun c hc => hfr c (by rw [← sm.1]; exact hc)) (by rw [hn2, sm.2.2.1]; omega)
        have p2 : Ph M2 A := Ph.sq (Sq.tr s1 s2) hc.1
        have p3 : Ph M3 A := by rw [← h3]; exact Ph.sq (Sq.wr p2.2.2.1.2.2.2.2.2.2.2.2) p2
        rw [← h7, ← h4]
        exact Ph.sm (Sm.wi (Sm.wi Sm.rf)) p3
      refine hQ (iZ (t : Int)) M5 hm5.1 (fun Q2 hQ2 => ?_)
      refine Cn.cd (show 12 + 1290 + 9 = 1311 by omega) (uX9_law (N := 20000) (K := 1290) (d := 12) (R := fun v M6 => v = iZ (t : Int) ∧ Kp8 A M5 M6 ∧ (∀ i, i < (tkL bt ln).length → 0 ≤ tkc bt ln i ∧ tkc bt ln i ≤ 355 ∧ 0 ≤ tkv bt ln i ∧ tkv bt ln i ≤ 20000000) ∧ (tkL bt ln).length ≤ 400 ∧ (Sl M5 M6 → IR M6 (A + 329) (va_up (laR r t (tkc bt ln) (tkv bt ln) (tkL bt ln).length (tkL bt ln).length) 203 ((t + 1 : Nat) : Int)) H im bt 0 fr dr (va_up (va_up ms 1 (iZ (-1))) 0 0))) hm5 ?_ (fun v M6 s6 hv6 => ?_))
      · unfold pX9_law
        have c7 : ¬ g_mi M5 (A + 329 + 2) 203 = 6 := by rw [hr5.2.1 203 (by omega), iZ_l6, iZ_eq (by omega) (by omega) (by omega) (by omega)]; omega
        refine ⟨fun _ => ?_, fun z => absurd z c7⟩
        refine m_readsAs (o := false) (by omega) (by omega) hr5.2.2.2.2.1.1 hr5.2.2.2.2.1.2.2 hr5.2.2.2.2.1.2.1 (fun M6 v6 f6 tk6 e18 e13 rm6 => ?_)
        rw [hR] at rm6
        obtain ⟨w1, w2⟩ := rm6
        have rr6 : Rr M6 (A + 329) r := hr5.2.1.kp (by funext j; exact f6 _ _ (by omega) (by omega) (by omega) (by omega))
        have bd6 : ∀ i, i < (tkL bt ln).length → 0 ≤ tkc bt ln i ∧ tkc bt ln i ≤ 355 ∧ 0 ≤ tkv bt ln i ∧ tkv bt ln i ≤ 20000000 := fun i hi => by
          obtain ⟨_, _, _, z1, z2, z3, z4, _⟩ := tk6.2.2 i (by omega)
          exact ⟨z1, z2, z3, z4⟩
        have t4 := tk6.1
        refine ⟨fun _ => ?_, fun z => absurd (w1.symm.trans z) (by decide)⟩
        rw [rr6 203 (by omega), ht2]
        refine la_ok (by omega) (by omega) rr6 tk6 e18 (fun M7 f7 R7 M8 h8 => ?_)
        rw [R7 203 (by omega), laR_lo (by omega), ht2, iZ_s1] at h8
        have R8 : Rr M8 (A + 329) (va_up (laR r t (tkc bt ln) (tkv bt ln) (tkL bt ln).length (tkL bt ln).length) 203 ((t + 1 : Nat) : Int)) := by rw [h8]; exact R7.up
        rw [R8 203 (by omega), up_eq, iZ_m1 (by omega)]
        unfold pX9_good0
        intro M9 h9
        obtain ⟨p1, p2, p3⟩ := wi_k h8
        obtain ⟨u1, u2, u3⟩ := wi_k h9
        have kc : ∀ c, c ≠ A + 329 → c ≠ A + 329 + 2 → (c < A + 329 + 9 ∨ A + 329 + 11 < c) → g_mi M9 c = g_mi M5 c := fun c q1 q2 q3 => by
          rw [u1 c q1, p1 c q2]
          funext j
          rw [f7 c j q2, f6 c j (by omega) (by omega) (by omega) (Or.inl q1)]
        have k0 : ∀ j, (j = 6 ∨ j = 38 ∨ j = 40 ∨ j = 48) → g_mi M9 (A + 329) j = g_mi M5 (A + 329) j := fun j q => by rw [u2 j (by omega), p1 _ (by omega), f7 _ _ (by omega), f6 _ j (by omega) (by omega) (by omega) (by omega)]
        refine ⟨rfl, fun c q => kc c (by omega) (by omega) (by omega), bd6, t4, fun s => ?_⟩
        refine hr5.mix s (fun c q => kc c (by omega) (by omega) (by omega)) (R8.kp (u1 _ (by omega))) (hr5.2.2.1.keep (k0 _ (by omega)) (kc _ (by omega) (by omega) (by omega))) ⟨by omega, fun i hi => by omega⟩ (by rw [u2 13 (by omega), p1 _ (by omega), f7 _ _ (by omega), e13]; rfl) (hr5.2.2.2.2.2.1.kp (kc _ (by omega) (by omega) (by omega))) (hr5.2.2.2.2.2.2.1.kp (k0 _ (by omega)) (kc _ (by omega) (by omega) (by omega))) ⟨u3, ?_, ?_, ?_⟩
        · rw [u2 14 (by omega), p1 _ (by omega), f7 _ _ (by omega), w2]; rfl
        · rw [k0 _ (by omega)]; exact hr5.2.2.2.2.2.2.2.2.2.1
        · rw [k0 _ (by omega)]; exact hr5.2.2.2.2.2.2.2.2.2.2
      · obtain ⟨e, k8, bd6, t4, hr6⟩ := hv6
        rw [e]
        generalize hrr : va_up (laR r t (tkc bt ln) (tkv bt ln) (tkL bt ln).length (tkL bt ln).length) 203 ((t + 1 : Nat) : Int) = r2 at *
        have hu : ∀ i, i < 205 → i ≠ 203 → r2 i = r i := fun i q1 q2 => by rw [← hrr, up_ne q2, laR_lo q1]
        have u203 : r2 203 = ((t + 1 : Nat) : Int) := by rw [← hrr, up_eq]
        have md := hv.mid (r2 := r2) (fun i hi => hu i (by omega) (by omega))
        have hp2 : PVs r2 (fun j => if j = t then cs else lw j) H im ilw := by
          refine ⟨⟨md.1, md.2, by rw [hu _ (by omega) (by omega)]; exact hv.s, by rw [hu _ (by omega) (by omega)]; exact hv.md, by rw [hu _ (by omega) (by omega)]; exact hv.n, fun i hi => ?_, by rw [u203]; omega, by rw [u203, hu _ (by omega) (by omega)]; have := hv.f; omega⟩, fun u hu2 => ?_, fun e he => ?_, hp.2.2.2⟩
          · have := hv.n
            rw [hu _ (by omega) (by omega)] at hi
            rw [hu _ (by omega) (by omega), hu _ (by omega) (by omega)]; exact hv.sn i hi
          · rw [u203] at hu2
            have cg : ∀ cs2, Lr (laR r t (tkc bt ln) (tkv bt ln) (tkL bt ln).length (tkL bt ln).length) u cs2 → Lr r2 u cs2 := fun cs2 hl => hl.cg (by omega) (fun i h1 _ => by rw [← hrr, up_ne (by omega)])
            dsimp only
            by_cases q : u = t
            · rw [if_pos q]
              subst q
              exact ⟨cg _ (laR_L (by omega) t4 tkc_T bd6 hR), hcb⟩
            · rw [if_neg q]
              obtain ⟨y1, y2⟩ := hp.2.1 u (by omega)
              exact ⟨cg _ (laR_K (by omega) (by omega) q t4 y1), y2⟩
          · rw [hu _ (by omega) (by omega), hu _ (by omega) (by omega)]; exact hp.2.2.1 e he
        have hc5 : IC M5 A r2 (fun j => if j = t then cs else lw j) H im ilw bt 0 fr dr (va_up (va_up ms 1 (iZ (-1))) 0 0) := by
          obtain ⟨g1, ⟨w1, w2, w3, w4, w5, w6⟩, g3, g4, g5, ⟨⟨l1, l2, l3⟩, g6⟩, g7, g8, g9, g10, g11, g12, g13⟩ := hc
          have nn := hv.n
          refine ⟨hphs, ⟨?_, ?_, ?_, ?_, fun j hj => ?_, fun u hu2 => ?_⟩, g3.n sn (by omega) (by omega) (fun c q1 q2 => kk c (by omega) (by omega) (by omega) (by omega) (by omega)), g4.keep (fun c q1 q2 => kk c (by omega) (by omega) (by omega) (by omega) (by omega)), g5.keep (by rw [kk _ (by omega) (by omega) (by omega) (by omega) (by omega)]), ⟨⟨?_, l2.n sn hfr (by omega) (by omega), l3.n sn hfr (by omega) (by omega)⟩, fun j hj => ?_⟩, ⟨by omega, ?_, fun i hi => by omega⟩, g8.kp (kk _ (by omega) (by omega) (by omega) (by omega) (by omega)), g9.kp (kk _ (by omega) (by omega) (by omega) (by omega) (by omega)), d3, ?_, by rw [kA 15 (by omega)]; exact g12, by rw [kA 14 (by omega)]; exact g13⟩
          · exact (w1.keep (fun c q1 q2 => kk c (by omega) (by omega) (by omega) (by omega) (by omega))).cg hv.k hv.t (fun i hi => hu i (by omega) (by omega)) (hu _ (by omega) (by omega)) (hu _ (by omega) (by omega))
          · rw [k1 4 (by omega), hu _ (by omega) (by omega)]; exact w2
          · rw [d1 _ (by omega), a3, u203]
          · rw [k1 6 (by omega), hu _ (by omega) (by omega)]; exact w4
          · rw [hu _ (by omega) (by omega)] at hj
            rw [kk _ (by omega) (by omega) (by omega) (by omega) (by omega), kk _ (by omega) (by omega) (by omega) (by omega) (by omega), hu _ (by omega) (by omega), hu _ (by omega) (by omega)]; exact w5 j hj
          · rw [u203] at hu2
            dsimp only
            by_cases q : u = t
            · rw [if_pos q]
              exact ⟨g_nx M, big, by rw [mr5, if_pos ⟨rfl, q⟩], tl5⟩
            · rw [if_neg q]
              obtain ⟨y, y1, y2, y3⟩ := w6 u (by omega)
              have yl := y3.lt hfr
              exact ⟨y, y1, by rw [mr5, if_neg (by omega), (hF _ (by omega)).2.1, sm.2.1]; exact y2, y3.n sn yl (by omega) (fun c q1 q2 => kk c (by omega) (by omega) (by omega) (by omega) (by omega))⟩
          · intro i v hv3
            rw [mr5] at hv3
            rw [kd5]
            split at hv3
            · cases hv3; exact hTx.1
            · rw [(hF _ (by omega)).2.1, sm.2.1] at hv3
              have y1 := l1 i v hv3
              rw [(hF v (hfr v (by rw [y1]; simp))).1, sm.1]; exact y1
          · obtain ⟨y1, y2⟩ := g6 j hj
            exact ⟨by rw [kk _ (by omega) (by omega) (by omega) (by omega) (by omega)]; exact y1, fun q hq => (y2 q hq).n sn hfr (by omega) (by omega) (by omega) (fun c q1 q2 => kk c (by omega) (by omega) (by omega) (by omega) (by omega)) (fun c q1 q2 => kk c q2 (by omega) (by omega) (by omega) (by omega))⟩
          · rw [i5 _ (by omega) (by omega), (hF _ (by omega)).2.2.1]; exact e5
          · rw [i5 _ (by omega) (by omega), (hF _ (by omega)).2.2.1]; exact e6
        exact hQ2 M6 ⟨r2, _, H, im, ilw, bt, 0, fr, dr, _, hp2, hc5.k8 s6.l k8, hr6 s6.l⟩
  · rw [c6] at h
    have e6 : r 203 = 6 := by omega
    generalize h1 : g_wi M (A + 282) 5 0 = M1
    obtain ⟨a1, a2, a3⟩ := wi_k h1.symm
    have s1 : Sl M M1 := by rw [← h1]; exact ⟨rfl, rfl, rfl⟩
    have hc1 : IC M1 A r lw H im ilw bt 0 fr dr ms := by
      refine hc.mix s1 (fun c q => a1 c (by omega)) (hc.2.1.keep s1 (fun c q1 q2 => a1 c (by omega)) (fun c q => a1 c (by omega))) (hc.2.2.2.1.keep (fun c q1 q2 => a1 c (by omega))) (hc.2.2.2.2.1.keep (by rw [a1 _ (by omega)])) ⟨by omega, a3, fun i hi => by omega⟩ (hc.2.2.2.2.2.2.2.1.kp (a1 _ (by omega))) (hc.2.2.2.2.2.2.2.2.1.kp (a1 _ (by omega))) ⟨?_, ?_, ?_, ?_⟩
      · rw [a1 _ (by omega)]; exact hc.2.2.2.2.2.2.2.2.2.1
      · rw [a2 6 (by omega)]; exact hc.2.2.2.2.2.2.2.2.2.2.1
      · rw [a1 _ (by omega)]; exact hc.2.2.2.2.2.2.2.2.2.2.2.1
      · rw [a1 _ (by omega)]; exact hc.2.2.2.2.2.2.2.2.2.2.2.2
    obtain ⟨f, hf⟩ := hc1.2.2.2.1
    have q := rf_8 (N := 20000) (K := 1290) (A := A) (v := -5) (R := fun v M2 => v = iZ (-5) ∧ Kp9 A M1 M2 ∧ (Sl M1 M2 → IC M2 A r lw H im ilw bt 0 (refU fr (-5)) dr (va_up ms 0 (iZ (-5))))) (Or.inr (Or.inr (Or.inr (Or.inl rfl)))) hc1.2.2.2.2.2.2.2.1 (fun M2 k2 s2 r2 => ⟨rfl, fun c q1 q2 => by funext j; exact k2 c j (by omega) (by omega), fun s => hc1.ch hv s (fun c j q1 q2 q3 q4 q5 => k2 c j q5 q4) (hc1.rs.keep (fun c q1 q2 => by funext j; exact k2 c j (by omega) (by omega))) (fun _ _ _ => rfl) (hf.keep (fun c q1 q2 => by funext j; exact k2 c j (by omega) (by omega))) s2 r2⟩)
    rw [← iZ_n5] at q
    obtain ⟨_, k9, hc2⟩ := rf_m5 q
    have s2 : Sl M1 (mX8_refuse M1 A (-5)) := jX8_refuse.l
    have hr2 : IR (mX8_refuse M1 A (-5)) (A + 329) r H im bt ln fr dr ms := (hr.k9 s1 (fun c q1 q2 => a1 c (by omega))).k9 s2 k9
    refine hQ (-5) _ hr2.1.1 (fun Q2 hQ2 => ?_)
    refine Cn.cd (show 12 + 1290 + 9 = 1311 by omega) (uX9_law (N := 20000) (K := 1290) (d := 12) (R := fun v M6 => v = -5 ∧ Kp8 A (mX8_refuse M1 A (-5)) M6 ∧ (Sl (mX8_refuse M1 A (-5)) M6 → IR M6 (A + 329) r H im bt 0 (refU fr (-5)) dr (va_up ms 0 (iZ (-5))))) hr2.1 ?_ (fun v M6 s6 hv6 => ?_))
    · generalize mX8_refuse M1 A (-5) = M2 at *
      unfold pX9_law
      have c7 : g_mi M2 (A + 329 + 2) 203 = 6 := by rw [hr2.2.1 203 (by omega), e6]; rfl
      refine ⟨fun z => absurd c7 z, fun _ M6 h6 => ?_⟩
      obtain ⟨p1, p2, p3⟩ := wi_k h6
      rw [iZ_n5]
      refine rf_9 (Or.inr (Or.inr (Or.inr (Or.inl rfl)))) (hr2.2.2.2.2.2.1.kp (p1 _ (by omega))) (fun M7 k7 s7 r7 => ⟨rfl, fun c w => by funext j; rw [k7 c j (by omega) (by omega), p1 c (by omega)], fun s => ?_⟩)
      have kc : ∀ c, c ≠ A + 329 → c ≠ A + 329 + 1 → g_mi M7 c = g_mi M2 c := fun c q1 q2 => by funext j; rw [k7 c j (Or.inl q1) q2, p1 c q1]
      have k0 : ∀ j, j ≠ 0 → j ≠ 13 → g_mi M7 (A + 329) j = g_mi M2 (A + 329) j := fun j q1 q2 => by rw [k7 _ j (Or.inr q1) (by omega), p2 j q2]
      refine hr2.mix s (fun c w => kc c (by omega) (by omega)) (hr2.2.1.kp (kc _ (by omega) (by omega))) (hr2.2.2.1.keep (k0 _ (by omega) (by omega)) (kc _ (by omega) (by omega))) ⟨by omega, fun i hi => by omega⟩ (by rw [k7 _ _ (by omega) (by omega), p3]; rfl) r7 (hr2.2.2.2.2.2.2.1.kp (k0 _ (by omega) (by omega)) (kc _ (by omega) (by omega))) ⟨s7, ?_, ?_, ?_⟩
      · rw [k0 _ (by omega) (by omega)]; exact hr2.2.2.2.2.2.2.2.2.1
      · rw [k0 _ (by omega) (by omega)]; exact hr2.2.2.2.2.2.2.2.2.2.1
      · rw [k0 _ (by omega) (by omega)]; exact hr2.2.2.2.2.2.2.2.2.2.2
    · obtain ⟨e, k8, hr6⟩ := hv6
      rw [e]
      exact hQ2 M6 ⟨r, lw, H, im, ilw, bt, 0, _, dr, _, hp, (hc2 s2).k8 s6.l k8, hr6 s6.l⟩
  · obtain ⟨f1, e5, rc⟩ := r2
    rw [c6] at hn
    cases hR : RD bt ln false with
    | inr cs => rw [hR] at rc; exact absurd (hv1.symm.trans rc.1) (by decide)
    | inl e =>
      rw [hR] at rc
      have hc1 := Fr2.kee hc sm.l f1 e5 rc.2
      obtain ⟨f, hf⟩ := hc1.2.2.2.1
      have q := rf_8 (N := 20000) (K := 1290) (A := A) (v := -6) (R := fun v M2 => v = iZ (-6) ∧ Kp9 A M1 M2 ∧ (Sl M1 M2 → IC M2 A r lw H im ilw bt 0 (refU fr (-6)) dr (va_up (va_up ms 1 (iZ (tkp bt ln e))) 0 (iZ (-6))))) (Or.inr (Or.inr (Or.inr (Or.inr rfl)))) hc1.2.2.2.2.2.2.2.1 (fun M2 k2 s2 r2 => ⟨rfl, fun c q1 q2 => by funext j; exact k2 c j (by omega) (by omega), fun s => hc1.ch hv s (fun c j q1 q2 q3 q4 q5 => k2 c j q5 q4) (hc1.rs.keep (fun c q1 q2 => by funext j; exact k2 c j (by omega) (by omega))) (fun _ _ _ => rfl) (hf.keep (fun c q1 q2 => by funext j; exact k2 c j (by omega) (by omega))) s2 r2⟩)
      rw [← n6] at q
      obtain ⟨_, k9, hc2⟩ := rf_m6 q
      have s2 : Sl M1 (mX8_refuse M1 A (-6)) := jX8_refuse.l
      have hr2 : IR (mX8_refuse M1 A (-6)) (A + 329) r H im bt ln fr dr ms := (hr.k9 sm.l (fun c q1 q2 => by funext j; exact f1 c j (by omega) (by omega))).k9 s2 k9
      refine hQ (-6) _ hr2.1.1 (fun Q2 hQ2 => ?_)
      refine Cn.cd (show 12 + 1290 + 9 = 1311 by omega) (uX9_law (N := 20000) (K := 1290) (d := 12) (R := fun v M6 => v = -6 ∧ Kp8 A (mX8_refuse M1 A (-6)) M6 ∧ (Sl (mX8_refuse M1 A (-6)) M6 → IR M6 (A + 329) r H im bt 0 (refU fr (-6)) dr (va_up (va_up ms 1 (iZ (tkp bt ln e))) 0 (iZ (-6))))) hr2.1 ?_ (fun v M6 s6 hv6 => ?_))
      · generalize mX8_refuse M1 A (-6) = M2 at *
        unfold pX9_law
        have c7 : ¬ g_mi M2 (A + 329 + 2) 203 = 6 := by rw [hr2.2.1 203 (by omega), iZ_l6, iZ_eq (by omega) (by omega) (by omega) (by omega)]; omega
        refine ⟨fun _ => ?_, fun z => absurd z c7⟩
        refine m_readsAs (o := false) (by omega) (by omega) hr2.2.2.2.2.1.1 hr2.2.2.2.2.1.2.2 hr2.2.2.2.2.1.2.1 (fun M6 v6 f6 tk6 e18 e13 rm6 => ?_)
        rw [hR] at rm6
        obtain ⟨w1, w2⟩ := rm6
        refine ⟨fun z => absurd w1 z, fun _ => ?_⟩
        rw [n6]
        have kb : g_mi M6 (A + 329 + 1) = g_mi M2 (A + 329 + 1) := by funext j; exact f6 _ _ (by omega) (by omega) (by omega) (by omega)
        refine rf_9 (Or.inr (Or.inr (Or.inr (Or.inr rfl)))) (hr2.2.2.2.2.2.1.kp kb) (fun M7 k7 s7 r7 => ⟨rfl, fun c w => by funext j; rw [k7 c j (by omega) (by omega), f6 c j (by omega) (by omega) (by omega) (by omega)], fun s => ?_⟩)
        have kc : ∀ c, c ≠ A + 329 → c ≠ A + 329 + 1 → (c < A + 329 + 9 ∨ A + 329 + 11 < c) → g_mi M7 c = g_mi M2 c := fun c q1 q2 q3 => by funext j; rw [k7 c j (Or.inl q1) q2, f6 c j (by omega) (by omega) (by omega) (Or.inl q1)]
        have k0 : ∀ j, (j = 6 ∨ j = 38 ∨ j = 40 ∨ j = 48) → g_mi M7 (A + 329) j = g_mi M2 (A + 329) j := fun j q => by rw [k7 _ j (by omega) (by omega), f6 _ j (by omega) (by omega) (by omega) (by omega)]
        refine hr2.mix s (fun c w => kc c (by omega) (by omega) (by omega)) (hr2.2.1.kp (kc _ (by omega) (by omega) (by omega))) (hr2.2.2.1.keep (k0 _ (by omega)) (kc _ (by omega) (by omega) (by omega))) ⟨by omega, fun i hi => by omega⟩ (by rw [k7 _ _ (by omega) (by omega), e13]; rfl) r7 (hr2.2.2.2.2.2.2.1.kp (k0 _ (by omega)) (kc _ (by omega) (by omega) (by omega))) ⟨s7, ?_, ?_, ?_⟩
        · rw [k7 _ _ (by omega) (by omega), w2]; rfl
        · rw [k0 _ (by omega)]; exact hr2.2.2.2.2.2.2.2.2.2.1
        · rw [k0 _ (by omega)]; exact hr2.2.2.2.2.2.2.2.2.2.2
      · obtain ⟨e9, k8, hr6⟩ := hv6
        rw [e9]
        exact hQ2 M6 ⟨r, lw, H, im, ilw, bt, 0, _, dr, _, hp, (hc2 s2).k8 s6.l k8, hr6 s6.l⟩
end OBW
