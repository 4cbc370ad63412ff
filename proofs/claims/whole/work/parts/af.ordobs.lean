/-! Calls: orders. -/
section OBO
variable {X : gX} {A b : Nat} {r r2 : Nat → Int} {lw : LWs} {H H2 : HL} {im : Nat → Option (Nat → Int)} {ilw : Nat → LWs} {bt : Nat → Int} {ln : Nat} {fr fr2 dr ms : Nat → Int32}
/-- the class's part behind orders -/
theorem IC.or {M M1 : gM} {f : Nat} {x y z : Int32} (hv : Vr r) (hc : IC M A r lw H im ilw bt ln fr dr ms) (hs : Sl M M1) (k : ∀ c, c ≠ A → (c < A + 2 ∨ A + 8 < c) → (c < A + 13 ∨ A + 295 < c) → c ≠ A + 304 → g_mi M1 c = g_mi M c) (k15 : g_mi M1 A 15 = g_mi M A 15) (hS : RS M1 (A + 1 + 1) r2) (e : ∀ i, 188 ≤ i → i < 205 → r2 i = r i) (hH : RHf M1 (A + 13) f H2) (hQ : cQ M1 A) (h5 : g_mi M1 (A + 282) 5 = 0) (hf : Rfs M1 A fr2) (h16 : g_mi M1 A 16 = x) (h6 : g_mi M1 (A + 282) 6 = y) (h14 : g_mi M1 A 14 = z) : IC M1 A r2 lw H2 im ilw bt 0 fr2 dr (va_up (va_up (va_up ms 3 z) 1 y) 0 x) :=
  hc.mix hs (fun c q => k c (by omega) (by omega) (by omega) (by omega)) (hc.2.1.st hv hs hS e (k _ (by omega) (by omega) (by omega) (by omega)) (fun c q1 q2 => k c (by omega) (by omega) (by omega) (by omega)) (fun c q => k c (by omega) (by omega) (by omega) (by omega))) ⟨f, hH⟩ hQ ⟨by omega, h5, fun i hi => by omega⟩ hf (hc.2.2.2.2.2.2.2.2.1.kp (k _ (by omega) (by omega) (by omega) (by omega))) ⟨h16, h6, k15.trans hc.2.2.2.2.2.2.2.2.2.2.2.1, h14⟩
theorem IR.or {M M1 : gM} {x y z : Int32} (hr : IR M b r H im bt ln fr dr ms) (hs : Sl M M1) (k : Foz b M M1) (hR : Rr M1 b r2) (hH : RLh M1 b H2) (hf : Rfm M1 b fr2) (h13 : g_mi M1 b 13 = 0) (h0 : g_mi M1 b 0 = x) (h14 : g_mi M1 b 14 = y) (h40 : g_mi M1 b 40 = z) : IR M1 b r2 H2 im bt 0 fr2 dr (va_up (va_up (va_up ms 3 z) 1 y) 0 x) :=
  hr.mix hs (fun c q => k.1 c (by omega)) hR hH ⟨by omega, fun i hi => by omega⟩ h13 hf (hr.2.2.2.2.2.2.1.kp k.2.2 (k.1 _ (by omega))) ⟨h0, h14, k.2.1.trans hr.2.2.2.2.2.2.2.2.2.1, h40⟩
theorem PVs.la (hp : PVs r lw H im ilw) (hT : (tkL bt ln).length ≤ 400) : PVs (laO r bt ln) lw H im ilw := by
  obtain ⟨hv, hl, hh, hi⟩ := hp
  have md := hv.mid (r2 := laO r bt ln) (fun i hi => laO_lo (by omega))
  refine ⟨hv.up md.1 md.2 (fun i _ h => laO_lo h), fun t ht => ?_, fun e he => ?_, hi⟩
  · rw [laO_lo (by omega)] at ht
    have := hv.l
    obtain ⟨a, c⟩ := hl t ht
    exact ⟨laR_K (by omega) (by omega) (by omega) hT a, c⟩
  · rw [laO_lo (by omega), laO_lo (by omega)]; exact hh e he
theorem PVs.vo {n : Int} {s : OSt} (hp : PVs r lw H im ilw) (hV : VO r n s) : PVs s.1 lw (lst (H ++ s.2.1)) im ilw := by
  obtain ⟨hv, hl, hh, hi⟩ := hp
  obtain ⟨v1, v2, v3, v4, v5, v6, v7, v8⟩ := hV
  refine ⟨hv.up v1 v2 (fun i h _ => v3 i h), VL.up hv hl (fun i h _ => v3 i (by omega)), fun e he => ?_, hi⟩
  rw [v3 200 (by omega), v3 201 (by omega)]
  unfold lst at he
  rcases List.mem_append.mp (List.mem_of_mem_drop he) with z | z
  · exact hh e z
  · exact v8 e z
theorem ob_orders : Ob X 1311 0 0 kX8_orders kX9_orders (INV A) A (A + 329) [] := by
  refine ob_gen (P8 := fun M R => pX8_orders 20000 1290 M A R) (P9 := fun M R => pZ9_orders 20000 1290 M (A + 329) R) (fun M R Q s hh hR => Cn.cd (show 14 + 1290 + 7 = 1311 by omega) (uX8_orders (d := 14) (K := 1290) s hh (fun v M1 j h => hR v M1 j.l h))) (fun M R Q s hh hR => Cn.cd (show 7 + 1290 + 14 = 1311 by omega) (uZ9_orders (d := 7) (K := 1290) s hh (fun v M1 j h => hR v M1 j h))) (fun M r lw H im ilw bt ln fr dr ms hp hc => ?_)
  obtain ⟨fH, hH⟩ := hc.2.2.2.1
  obtain ⟨fQ, hQ1, hQ2⟩ := hc.2.2.2.2.1
  have hCb := hc.2.2.2.2.2.2.1
  have hv := hp.1
  have n1 : (-1 : Int32) = iZ (-1) := iZ_n1
  -- the reference, whatever comes
  have ref := fun (M2 : gM) (R : Int32 → gM → Prop) (hr : IR M2 (A + 329) r H im bt ln fr dr ms) => oz_9 (N := 20000) (K := 1290) (law := lwA lw (r 204)) (R := R) rfl (by omega) hv hp.fl hr.2.1 hr.2.2.1 hr.2.2.2.2.1.1 hr.2.2.2.2.1.2.2 hr.2.2.2.2.1.2.1 hr.2.2.2.2.2.1
  show pX8_orders 20000 1290 M A _
  unfold pX8_orders pX8_orders_0
  intro M1 h1
  obtain ⟨a1, a2, a3⟩ := wi_k h1
  rw [n1] at a3
  have Cb1 : Cb M1 (A + 282) bt ln := by unfold Cb at hCb ⊢; rw [a1 _ (by omega), a1 _ (by omega)]; exact hCb
  show pX2_read 20000 1290 M1 (A + 282) (iB true) _
  refine c_read (o := true) (by omega) (by omega) Cb1 (fun M2 v2 f2 e5 rc sl2 => ?_)
  have k2 : ∀ c, c ≠ A → (c < A + 282 ∨ A + 295 < c) → g_mi M2 c = g_mi M c := fun c q1 q2 => by rw [← a1 c q1]; funext j; exact f2 c j (by omega) (by omega)
  have k2A : ∀ j, j ≠ 14 → g_mi M2 A j = g_mi M A j := fun j q => by rw [f2 A j (by omega) (by omega), a2 j q]
  have e14 : g_mi M2 A 14 = iZ (-1) := by rw [f2 A 14 (by omega) (by omega)]; exact a3
  have F2 : Rfs M2 A fr := fun i hi => by rw [k2 _ (by omega) (by omega)]; exact hc.2.2.2.2.2.2.2.1 i hi
  have sM1 : Sl M M1 := by rw [h1]; exact ⟨rfl, rfl, rfl⟩
  have sM2 : Sl M M2 := Sl.tr sM1 sl2
  cases hRD : RD bt ln true with
  | inl e =>
    rw [hRD] at rc
    obtain ⟨w1, w2⟩ := rc
    refine ⟨fun z => absurd w1 z, fun _ => ?_⟩
    rw [show (-6 : Int32) = iZ (-6) from rfl]
    refine rf_8 (Or.inr (Or.inr (Or.inr (Or.inr rfl)))) F2 (fun M3 k3 s3 r3 sl3 => ?_)
    have ka : ∀ c, c ≠ A → c ≠ A + 304 → g_mi M3 c = g_mi M2 c := fun c q1 q2 => by funext j; exact k3 c j (by omega) q2
    refine ⟨fun c q1 q2 => by rw [ka c (by omega) (by omega), k2 c (by omega) (by omega)], r, lw, H, im, ilw, bt, 0, refU fr (-6), dr, va_up (va_up (va_up ms 3 (iZ (-1))) 1 (iZ (tkp bt ln e))) 0 (iZ (-6)), hp, fun s => ?_, fun M9 hr => ?_⟩
    · refine hc.or hv s (fun c q1 q2 q3 q4 => by rw [ka c q1 q4, k2 c q1 (by omega)]) (by rw [k3 _ _ (by omega) (by omega), k2A _ (by omega)]) (hc.rs.keep (fun c q1 q2 => by rw [ka c (by omega) (by omega), k2 c (by omega) (by omega)])) (fun _ _ _ => rfl) (hH.keep (fun c q1 q2 => by rw [ka c (by omega) (by omega), k2 c (by omega) (by omega)])) ⟨fQ, hQ1, by rw [ka _ (by omega) (by omega), k2 _ (by omega) (by omega)]; exact hQ2⟩ (by rw [ka _ (by omega) (by omega)]; exact e5) r3 s3 (by rw [ka _ (by omega) (by omega)]; exact w2) (by rw [k3 _ _ (by omega) (by omega)]; exact e14)
    · refine ref M9 _ hr (fun e' he M10 fz R10 H10 F10 i13 i0 i14 i40 => ?_) (fun cs u he => absurd (hRD.symm.trans he) (fun q => by cases q)) (fun cs s2 he => absurd (hRD.symm.trans he) (fun q => by cases q))
      have : e' = e := by rw [hRD] at he; cases he; rfl
      subst this
      exact ⟨rfl, fun c q => fz.1 c (by omega), fun s => hr.or s fz R10 H10 F10 i13 i0 i14 i40⟩
  | inr cs =>
    rw [hRD] at rc
    obtain ⟨w1, w2, l12, g6, nl, L, L4, ⟨nl5, lb⟩, g7, g4, hce⟩ := rc
    obtain ⟨_, _, hcb⟩ := RD_B hCb.1 (fun i hi => (hCb.2.2 i hi).2) hRD
    have t4 := (tok_R hCb.1 (fun i hi => (hCb.2.2 i hi).2)).1
    have hpL := hp.la (bt := bt) (ln := ln) t4
    refine ⟨fun _ => ?_, fun z => absurd (w1.symm.trans z) (by decide)⟩
    have S2 : RS M2 (A + 1 + 1) r := hc.rs.keep (fun c q1 q2 => k2 c (by omega) (by omega))
    refine cp_S (by omega) hv.k hv.t S2 (fun M3 k3 S3 sl3 => ?_)
    unfold pX0_clear
    intro M4 h4 sl4
    obtain ⟨b1, b2, b3⟩ := wi_k h4
    have sM4 : Sl M M4 := Sl.tr (Sl.tr sM2 sl3) sl4
    have k4 : ∀ c, c ≠ A + 135 → (c < A + 257 ∨ A + 263 < c) → g_mi M4 c = g_mi M2 c := fun c q1 q2 => by rw [b1 c q1, k3 c (by omega)]
    have S4 : RS M4 (A + 1 + 1) (laO r bt ln) := (S2.keep (fun c q1 q2 => k4 c (by omega) (by omega))).cg hv.k hv.t (fun i hi => laO_lo (by omega)) (laO_lo (by omega)) (laO_lo (by omega))
    have A4 : RS M4 (A + 257) r := S3.keep (fun c q1 q2 => b1 c (by omega))
    have H4 : RHf M4 (A + 135) fQ (lst []) := ⟨hQ1, by decide, by rw [b2 _ (by omega), k3 _ (by omega), k2 _ (by omega) (by omega)]; exact hQ2, b3, fun j e he => (by cases he)⟩
    have kM4 : ∀ c, c ≠ A → c ≠ A + 135 → (c < A + 257 ∨ A + 295 < c) → g_mi M4 c = g_mi M c := fun c q0 q1 q2 => by rw [k4 c q1 (by omega), k2 c q0 (by omega)]
    have CW4 : CW M4 (A + 353) (A + 1) r lw := hc.2.1.keep sM4 (fun c q1 q2 => kM4 c (by omega) (by omega) (by omega)) (fun c q => kM4 c (by omega) (by omega) (by omega))
    have FC4 : FC M4 A (g_mi M4 (A + 1) 6) (lwA lw (r 204)) := by
      rw [CW4.2.2.2.1]
      exact FC_of hv hp.2.1 CW4 (hc.2.2.1.keep sM4 (fun c q1 q2 => kM4 c (by omega) (by omega) (by omega))) hv.f.1 hv.f.2
    have X4 : OX M4 A nl (g_mi M2 (A + 282 + 9)) (g_mi M2 (A + 282 + 10)) cs := by
      refine OX.keep (M := M2) ⟨⟨l12, l12, by omega, g6, L, g7, L4, hce⟩, g4, nl5, rfl, rfl, lb⟩ (fun c q1 q2 => k4 c (by omega) (by omega))
    have V4 : VO (laO r bt ln) 0 (laO r bt ln, [], 0, -1) := ⟨hpL.1.k, hpL.1.t, fun _ _ => rfl, by show (0 : Int) ≤ 0; omega, by show (0 : Int) ≤ 0; omega, by show (-1 : Int) ≤ -1; omega, by show (-1 : Int) ≤ 1000; omega, fun e he => (by cases he)⟩
    have m9 : bd9 (laO r bt ln 201) := hpL.1.m
    have dr0 : cs.drop 0 = cs := rfl
    rw [n1]
    show qX8_orders 20000 1290 _ 20000 0 M4 A (A + 282 + 2) 12 460 (iZ 0) (iZ (-1)) (iZ ((0 : Nat) : Int)) 0
    refine or8_0 (M0 := M4) (r0 := laO r bt ln) (law := lwA lw (r 204)) (by omega) m9 FC4 X4 hcb cs.length 0 20000 fQ M4 (laO r bt ln, [], 0, -1) 0 (by omega) (by omega) (by omega) V4 Fo.rf Sl.rf S4 H4 (fun u hu u12 M5 f5 fo5 sl5 q5 q6 => ?_) (fun s2 hs2 M5 f5 fo5 sl5 S5 H5 => ?_)
    · refine cp_S (by omega) hv.k hv.t (A4.keep (fun c q1 q2 => fo5 c (by omega) (by omega) (by omega))) (fun M6 k6 S6 sl6 M7 h7 => ?_)
      obtain ⟨g1, g2, g3⟩ := wi_k h7
      have k7 : ∀ c, c ≠ A → (c < A + 2 ∨ A + 8 < c) → (c < A + 135 ∨ A + 295 < c) → g_mi M7 c = g_mi M c := fun c q1 q2 q3 => by rw [g1 c q1, k6 c (by omega), fo5 c (by omega) (by omega) (by omega), k4 c (by omega) (by omega), k2 c q1 (by omega)]
      have kA : ∀ j, j ≠ 14 → g_mi M7 A j = g_mi M A j := fun j q => by rw [g2 j q, k6 _ (by omega), fo5 _ (by omega) (by omega) (by omega), k4 _ (by omega) (by omega), k2A j q]
      have k282 : g_mi M7 (A + 282) = g_mi M2 (A + 282) := by rw [g1 _ (by omega), k6 _ (by omega), fo5 _ (by omega) (by omega) (by omega), k4 _ (by omega) (by omega)]
      have F7 : Rfs M7 A fr := fun i hi => by rw [k7 _ (by omega) (by omega) (by omega)]; exact hc.2.2.2.2.2.2.2.1 i hi
      rw [show (-3 : Int32) = iZ (-3) from rfl]
      refine rf_8 (Or.inr (Or.inr (Or.inl rfl))) F7 (fun M8 k8 s8 r8 sl8 => ?_)
      have ka : ∀ c, c ≠ A → c ≠ A + 304 → g_mi M8 c = g_mi M7 c := fun c q1 q2 => by funext j; exact k8 c j (by omega) q2
      refine ⟨fun c q1 q2 => by rw [ka c (by omega) (by omega), k7 c (by omega) (by omega) (by omega)], laO r bt ln, lw, H, im, ilw, bt, 0, refU fr (-3), dr, va_up (va_up (va_up ms 3 (iZ ((u : Nat) : Int))) 1 (iZ (-1))) 0 (iZ (-3)), hpL, fun s => ?_, fun M9 hr => ?_⟩
      · refine hc.or hv s (fun c q1 q2 q3 q4 => by rw [ka c q1 q4, k7 c q1 q2 (by omega)]) (by rw [k8 _ _ (by omega) (by omega), kA _ (by omega)]) (((S6.keep (fun c q1 q2 => g1 c (by omega))).keep (fun c q1 q2 => ka c (by omega) (by omega))).cg hv.k hv.t (fun i hi => laO_lo (by omega)) (laO_lo (by omega)) (laO_lo (by omega))) (fun i _ q => laO_lo q) (hH.keep (fun c q1 q2 => by rw [ka c (by omega) (by omega), k7 c (by omega) (by omega) (by omega)])) ⟨f5, q6, by rw [ka _ (by omega) (by omega), g1 _ (by omega), k6 _ (by omega)]; exact q5⟩ (by rw [ka _ (by omega) (by omega), k282]; exact e5) r8 s8 (by rw [ka _ (by omega) (by omega), k282]; exact w2) (by rw [k8 _ _ (by omega) (by omega)]; exact g3)
      · refine ref M9 _ hr (fun e' he => absurd (hRD.symm.trans he) (fun q => by cases q)) (fun cs' u' he hu' M10 fz R10 H10 F10 i13 i0 i14 i40 => ?_) (fun cs' s2 he hs2 => ?_)
        · have : cs' = cs := by rw [hRD] at he; cases he; rfl
          subst this
          rw [dr0, hu'] at hu
          cases hu
          exact ⟨rfl, fun c q => fz.1 c (by omega), fun s => hr.or s fz R10 H10 F10 i13 i0 i14 i40⟩
        · have : cs' = cs := by rw [hRD] at he; cases he; rfl
          subst this
          rw [dr0, hs2] at hu
          cases hu
    · rw [dr0] at hs2
      have V2 := VO.or (r0 := laO r bt ln) cs 0 _ 0 s2 hcb V4 hs2
      have hp2 := hpL.vo V2
      have kz : ∀ c, c ≠ A → (c < A + 2 ∨ A + 8 < c) → (c < A + 135 ∨ A + 295 < c) → g_mi M5 c = g_mi M c := fun c q1 q2 q3 => by rw [fo5 c (by omega) (by omega) (by omega), k4 c (by omega) (by omega), k2 c q1 (by omega)]
      have hH5 : RHf M5 (A + 13) fH (lst (H ++ (lst s2.2.1).take 0)) := by
        rw [List.take_zero, List.append_nil, lst_s hH.2.1]
        exact hH.keep (fun c q1 q2 => kz c (by omega) (by omega) (by omega))
      unfold pX0_appendAll pX0_appendAll_0
      show qX0_appendAll 20000 1290 _ 20000 0 M5 (A + 13) (A + 135) (iZ ((0 : Nat) : Int))
      refine ap_loop (M0 := M5) (P := lst s2.2.1) H5 (fun e he => ?_) (by omega) H (fun M6 f6 k6 H6 sl6 => ?_) (lst s2.2.1).length 0 20000 fH M5 (by omega) (by have := lst_b (L := s2.2.1); omega) (fun _ _ => rfl) hH5
      · unfold lst at he
        have := V2.2.2.2.2.2.2.2 e (List.mem_of_mem_drop he)
        exact ⟨this.1.1, this.1.2.1⟩
      · rw [lst_lst] at H6
        unfold pX8_accept
        intro M7 h7 sl7
        obtain ⟨g1, g2, g3⟩ := wi_k h7
        have k7 : ∀ c, c ≠ A → (c < A + 2 ∨ A + 8 < c) → (c < A + 13 ∨ A + 295 < c) → g_mi M7 c = g_mi M c := fun c q1 q2 q3 => by rw [g1 c q1, k6 c (by omega), kz c q1 q2 (by omega)]
        have kA : ∀ j, j ≠ 16 → g_mi M7 A j = g_mi M2 A j := fun j q => by rw [g2 j q, k6 _ (by omega), fo5 _ (by omega) (by omega) (by omega), k4 _ (by omega) (by omega)]
        have k282 : g_mi M7 (A + 282) = g_mi M2 (A + 282) := by rw [g1 _ (by omega), k6 _ (by omega), fo5 _ (by omega) (by omega) (by omega), k4 _ (by omega) (by omega)]
        refine ⟨fun c q1 q2 => k7 c (by omega) (by omega) (by omega), s2.1, lw, lst (H ++ s2.2.1), im, ilw, bt, 0, fr, dr, va_up (va_up (va_up ms 3 (iZ (-1))) 1 (iZ (-1))) 0 0, hp2, fun s => ?_, fun M9 hr => ?_⟩
        · refine hc.or hv s (fun c q1 q2 q3 _ => k7 c q1 q2 q3) (by rw [kA _ (by omega), k2A _ (by omega)]) (S5.keep (fun c q1 q2 => by rw [g1 c (by omega), k6 c (by omega)])) (fun i q1 q2 => by rw [V2.2.2.1 i q1, laO_lo q2]) (H6.keep (fun c q1 q2 => g1 c (by omega))) ⟨f5, H5.1, by rw [g1 _ (by omega), k6 _ (by omega)]; exact H5.2.2.1⟩ (by rw [k282]; exact e5) (fun i hi => by rw [k7 _ (by omega) (by omega) (by omega)]; exact hc.2.2.2.2.2.2.2.1 i hi) g3 (by rw [k282]; exact w2) (by rw [kA _ (by omega)]; exact e14)
        · refine ref M9 _ hr (fun e' he => absurd (hRD.symm.trans he) (fun q => by cases q)) (fun cs' u' he hu' => ?_) (fun cs' s3 he hs3 M10 fz R10 H10 F10 i13 i0 i14 i40 => ?_)
          · have : cs' = cs := by rw [hRD] at he; cases he; rfl
            subst this
            rw [hu'] at hs2
            cases hs2
          · have : cs' = cs := by rw [hRD] at he; cases he; rfl
            subst this
            rw [hs3] at hs2
            cases hs2
            exact ⟨rfl, fun c q => fz.1 c (by omega), fun s => hr.or s fz R10 H10 F10 i13 i0 i14 i40⟩
end OBO
