/-! Calls: image, back, as calls. -/
section IMO
variable {X : gX} {A b : Nat} {r : Nat → Int} {lw : LWs} {H : List ((Nat → Int) × Int)} {im : Nat → Option (Nat → Int)} {ilw : Nat → LWs} {bt : Nat → Int} {ln : Nat} {fr dr ms : Nat → Int32}
theorem IR.kex {M M1 : gM} (h : IR M b r H im bt ln fr dr ms) (hm : Mo M1 b) (k : ∀ c, b ≤ c → c ≤ b + 23 → g_mi M1 c = g_mi M c) : IR M1 b r H im bt ln fr dr ms := by
  obtain ⟨a1, a2, a3, a4, ⟨a5, a6, a7⟩, a8, a9, a10, a11, a12, a13⟩ := h
  refine ⟨hm, a2.kp (k _ (by omega) (by omega)), a3.keep (by rw [k b (by omega) (by omega)]) (k _ (by omega) (by omega)), ?_, ⟨a5.kp (k _ (by omega) (by omega)), by rw [k b (by omega) (by omega)]; exact a6, ?_⟩, a8.kp (k _ (by omega) (by omega)), a9.kp (by rw [k b (by omega) (by omega)]) (k _ (by omega) (by omega)), ?_, ?_, ?_, ?_⟩
  · unfold rI at a4 ⊢
    rw [k (b + 4) (by omega) (by omega), k (b + 3) (by omega) (by omega)]; exact a4
  · unfold Vw at a7 ⊢
    rw [k (b + 6) (by omega) (by omega)]; exact a7
  · rw [k b (by omega) (by omega)]; exact a10
  · rw [k b (by omega) (by omega)]; exact a11
  · rw [k b (by omega) (by omega)]; exact a12
  · rw [k b (by omega) (by omega)]; exact a13
theorem LwO.x {M M1 : gM} {e w : Nat} (h : LwO M w) (hs : Sxe e M M1) (he : w ≠ e) : LwO M1 w := fun i v hv => by
  rw [hs.2.1 w he] at hv
  rw [hs.1]
  exact h i v hv
theorem aIm_n {A : Nat} {x : Int} (x1 : -2147483648 ≤ x) (x2 : x < 2147483648) (h : ¬ (0 ≤ x ∧ x ≤ 1)) : aIm A (iZ x) = none := by
  unfold aIm
  by_cases c : x < 0
  · rw [if_pos (by rw [iZ_l0, iZ_lt (by omega) (by omega) (by omega) (by omega)]; exact c)]
  · rw [if_neg (by rw [iZ_l0, iZ_lt (by omega) (by omega) (by omega) (by omega)]; exact c), if_pos (by rw [iZ_l2, iZ_le (by omega) (by omega) (by omega) (by omega)]; omega)]
theorem aIm_s {A k : Nat} (hk : k < 2) : aIm A (iZ k) = some (A + 307 + 11 * k) := by
  rcases (by omega : k = 0 ∨ k = 1) with e | e <;> subst e <;> rfl
theorem ob_image {x1 : Int32} : Ob X 1311 0 0 kX8_image kX9_image (INV A) A (A + 329) [.int x1] := by
  obtain ⟨x, rfl, b1, b2⟩ := i32x x1
  intro M hI hfr
  obtain ⟨r, lw, H, im, ilw, bt, ln, fr, dr, ms, hp, hc, hr⟩ := hI
  refine ⟨hc.1.1, fun Q hQ => ?_⟩
  by_cases hx : 0 ≤ x ∧ x ≤ 1
  · obtain ⟨k, hk⟩ := Int.eq_ofNat_of_zero_le hx.1
    subst hk
    have hk2 : k < 2 := by omega
    have ea := aIm_s (A := A) hk2
    obtain ⟨⟨l1, l2, l3⟩, hI⟩ := hc.2.2.2.2.2.1
    have hv := hp.1
    have lk : LwO M (A + 307 + 11 * k + 10) := by
      rcases (by omega : k = 0 ∨ k = 1) with e | e <;> subst e
      · exact l2
      · exact l3
    obtain ⟨wk, _⟩ := aIm_w hc.1 ea
    have h01 : EX3_copyFrom M (A + 307 + 11 * k + 1) (A + 1 + 1) := by
      unfold EX3_copyFrom EX5_copyFrom
      have e : g_mi (g_cp (g_cp M (A + 1 + 1 + 1) (A + 307 + 11 * k + 1 + 1) 0 0 30) (A + 1 + 1 + 2) (A + 307 + 11 * k + 1 + 2) 0 0 3) (A + 1 + 1 + 3) 3 = iZ (r 33) := by
        rw [mi_cp, if_neg (by omega), mi_cp, if_neg (by omega)]; exact hc.rs.2.2.2.1
      rw [e]
      rcases hv.t.1 with z | z
      · rw [z]; exact Or.inl rfl
      · rw [z]; exact Or.inr rfl
    obtain ⟨C5, sx, f5, f7, l5⟩ := cw_cp (a0 := A + 307 + 11 * k) (a1 := A + 1) (lo := A + 353) (by omega) (by omega) (by omega) hv hc.2.1 lk l1
    have sq5 := jX7_copyFrom (M := M) (a0 := A + 307 + 11 * k) (a1 := A + 1) wk
    refine tX8_image (d := 1307) hc.1 (fun w hw => by rw [ea] at hw; cases hw; exact ⟨l1, h01⟩) ?_
    unfold fX8_image mX8_image
    rw [ea]
    dsimp only
    unfold mX8_accept
    generalize mX7_copyFrom M (A + 307 + 11 * k) (A + 1) = M5 at *
    generalize h6 : g_wi M5 (A + 307 + 11 * k) 7 1 = M6
    generalize h7 : g_wi M6 A 16 0 = M7
    obtain ⟨a1, a2, a3⟩ := wi_k h6.symm
    obtain ⟨d1, d2, d3⟩ := wi_k h7.symm
    have s57 : Sl M5 M7 := by rw [← h7, ← h6]; exact ⟨rfl, rfl, rfl⟩
    have sx7 : Sxe (A + 307 + 11 * k + 10) M M7 := ⟨by rw [s57.1, sx.1], fun c hc => by rw [s57.2.1, sx.2.1 c hc], by rw [s57.2.2, sx.2.2]⟩
    have kk : ∀ c, c ≠ A → (c < A + 307 + 11 * k ∨ A + 307 + 11 * k + 9 < c) → g_mi M7 c = g_mi M c := fun c q1 q2 => by rw [d1 c q1, a1 c (by omega), f5 c q2]
    have kA : ∀ j, j ≠ 16 → g_mi M7 A j = g_mi M A j := fun j q => by rw [d2 j q, a1 _ (by omega), f5 _ (by omega)]
    have hm7 : Mo M7 (A + 329) := hr.1.x sx7 (by omega)
    have hr7 : IR M7 (A + 329) r H im bt ln fr dr ms := hr.kex hm7 (fun c q1 q2 => kk c (by omega) (by omega))
    have cx : ∀ (w : Nat) (q : Nat → Int) (l : LWs), CW M (A + 353) w q l → w + 10 ≠ A + 307 + 11 * k + 10 → (w = A + 1 ∨ (A + 307 ≤ w ∧ w ≤ A + 318 ∧ (w + 9 < A + 307 + 11 * k ∨ A + 307 + 11 * k + 9 < w))) → CW M7 (A + 353) w q l := fun w q l h he hw => h.x sx7 he (by omega) (fun c q1 q2 => ⟨fun e => by rw [kk c (by omega) (by omega)]; exact ⟨rfl, rfl, rfl⟩, fun _ => kk c (by omega) (by omega)⟩) (fun c q => kk c (by omega) (by omega))
    have hc7 : IC M7 A r lw H (fun j => if j = k then some r else im j) (fun j => if j = k then lw else ilw j) bt ln fr dr (va_up ms 0 0) := by
      obtain ⟨g1, g2, g3, g4, g5, g6, g7, g8, g9, g10, g11, g12, g13⟩ := hc
      refine ⟨Ph.sq (Sq.tr sq5 (Sl.sq s57)) g1, cx _ _ _ g2 (by omega) (Or.inl rfl), g3.x sx7 (by omega) (fun c q1 q2 => kk c (by omega) (by omega)), g4.keep (fun c q1 q2 => kk c (by omega) (by omega)), g5.keep (by rw [kk _ (by omega) (by omega)]), ⟨⟨?_, ?_, ?_⟩, fun j hj => ?_⟩, g7.kp (by rw [kk _ (by omega) (by omega)]) (kk _ (by omega) (by omega)), g8.kp (kk _ (by omega) (by omega)), g9.kp (kk _ (by omega) (by omega)), d3, by rw [kk _ (by omega) (by omega)]; exact g11, by rw [kA 15 (by omega)]; exact g12, by rw [kA 14 (by omega)]; exact g13⟩
      · exact l1.x sx7 (by omega)
      · rcases (by omega : k = 0 ∨ k = 1) with e | e
        · subst e; exact l5.sl s57
        · exact l2.x sx7 (by omega)
      · rcases (by omega : k = 0 ∨ k = 1) with e | e
        · exact l3.x sx7 (by omega)
        · subst e; exact l5.sl s57
      · dsimp only
        by_cases c : j = k
        · subst c
          rw [if_pos rfl, if_pos rfl]
          refine ⟨by rw [d1 _ (by omega), a3]; rfl, fun q hq => ?_⟩
          cases hq
          refine C5.x (e := A) ⟨s57.1, fun c _ => by rw [s57.2.1], s57.2.2⟩ (by omega) (by omega) (fun c q1 q2 => ⟨fun e => ?_, fun e => ?_⟩) (fun c q => by rw [d1 c (by omega), a1 c (by omega)])
          · subst e; rw [d1 _ (by omega), a2 4 (by omega), a2 5 (by omega), a2 6 (by omega)]; exact ⟨rfl, rfl, rfl⟩
          · rw [d1 c (by omega), a1 c e]
        · rw [if_neg c, if_neg c]
          obtain ⟨v1, v2⟩ := hI j hj
          exact ⟨by rw [kk _ (by omega) (by omega)]; exact v1, fun q hq => cx _ _ _ (v2 q hq) (by omega) (by omega)⟩
    have hp7 : PVs r lw H (fun j => if j = k then some r else im j) (fun j => if j = k then lw else ilw j) := by
      refine ⟨hp.1, hp.2.1, hp.2.2.1, fun j q hj hq => ?_⟩
      dsimp only at hq ⊢
      by_cases c : j = k
      · rw [if_pos c] at hq ⊢
        cases hq
        exact ⟨hp.1, hp.2.1⟩
      · rw [if_neg c] at hq ⊢
        exact hp.2.2.2 j q hj hq
    refine hQ 0 M7 hm7.1 (fun Q2 hQ2 => ?_)
    refine uX9_image (N := 20000) (K := 1290) (d := 1310) (R := fun v M2 => v = 0 ∧ Kp8 A M7 M2 ∧ (Sl M7 M2 → IR M2 (A + 329) r H (fun j => if j = k then some r else im j) bt ln fr dr (va_up ms 0 0))) hm7 (im_9 (by omega) hk2 hr7.2.1 (fun M8 k8 i8 h8 s8 => ⟨rfl, fun c q => by funext j; exact k8 c j (by omega) (by omega) (by omega), fun s => ?_⟩)) (fun v M2 s2 hv2 => ?_)
    · have kc : ∀ c, c ≠ A + 329 → c ≠ A + 329 + 3 → c ≠ A + 329 + 4 → g_mi M8 c = g_mi M7 c := fun c q0 q1 q2 => by funext j; exact k8 c j q1 q2 (Or.inl q0)
      have k0 : ∀ j, j ≠ 0 → g_mi M8 (A + 329) j = g_mi M7 (A + 329) j := fun j q => k8 _ j (by omega) (by omega) (Or.inr q)
      obtain ⟨g1, g2, g3, g4, ⟨g5, g6, g7⟩, g8, g9, g10, g11, g12, g13⟩ := hr7
      refine ⟨Mo.sl s g1, g2.kp (kc _ (by omega) (by omega) (by omega)), g3.keep (k0 _ (by omega)) (kc _ (by omega) (by omega) (by omega)), fun j hj => ⟨?_, fun q hq i hi => ?_⟩, ⟨g5.kp (kc _ (by omega) (by omega) (by omega)), by rw [k0 _ (by omega)]; exact g6, ?_⟩, g8.kp (kc _ (by omega) (by omega) (by omega)), g9.kp (k0 _ (by omega)) (kc _ (by omega) (by omega) (by omega)), s8, by rw [k0 _ (by omega)]; exact g11, by rw [k0 _ (by omega)]; exact g12, by rw [k0 _ (by omega)]; exact g13⟩
      · dsimp only
        rw [h8 j]
        by_cases c : j = k
        · rw [if_pos c, if_pos c]; rfl
        · rw [if_neg c, if_neg c]; exact (g4 j hj).1
      · dsimp only at hq
        rw [i8 j i hj hi]
        by_cases c : j = k
        · rw [if_pos c] at hq ⊢
          cases hq; rfl
        · rw [if_neg c] at hq ⊢
          exact (g4 j hj).2 q hq i hi
      · unfold Vw at g7 ⊢
        rw [kc (A + 329 + 6) (by omega) (by omega) (by omega)]; exact g7
    · obtain ⟨e, k9, hr9⟩ := hv2
      rw [e]
      exact hQ2 M2 ⟨r, lw, H, _, _, bt, ln, fr, dr, _, hp7, hc7.k8 s2.l k9, hr9 s2.l⟩
  · have en := aIm_n (A := A) b1 b2 hx
    refine tX8_image (d := 1307) hc.1 (fun w hw => by rw [en] at hw; cases hw) ?_
    unfold fX8_image mX8_image
    rw [en]
    dsimp only
    have q := OG.rf (N := 20000) (K := 1290) (P9 := fun M R => pX9_image 20000 1290 M (A + 329) (iZ x) R) (v := -1) (Or.inl rfl) hp hc (fun M2 hr2 R hR => by
      show pX9_image 20000 1290 M2 (A + 329) (iZ x) R
      unfold pX9_image pX9_image_0
      intro v hv
      rw [iZ_l1, lo3 b1 b2 (by omega) (by omega), decide_eq_false hx] at hv
      subst hv
      refine ⟨fun z => absurd rfl z, fun _ => ?_⟩
      rw [iZ_n1]
      exact IR.rf (Or.inl rfl) hr2 hR)
    rw [← iZ_n1] at q
    obtain ⟨k9, r', lw', H', im', ilw', bt', ln', fr', dr', ms', hp', hc', h9'⟩ := rf_m1 q
    have s : Sl M (mX8_refuse M A (-1)) := jX8_refuse.l
    have hr1 := hr.k9 s k9
    refine hQ (-1) _ hr1.1.1 (fun Q2 hQ2 => ?_)
    refine uX9_image (N := 20000) (K := 1290) (d := 1310) hr1.1 (h9' _ hr1) (fun v M2 s2 hv2 => ?_)
    obtain ⟨e, k8, hr2⟩ := hv2
    rw [e]
    exact hQ2 M2 ⟨r', lw', H', im', ilw', bt', ln', fr', dr', ms', hp', (hc' s).k8 s2.l k8, hr2 s2.l⟩
theorem ob_back {x1 : Int32} : Ob X 1311 0 0 kX8_back kX9_back (INV A) A (A + 329) [.int x1] := by
  obtain ⟨x, rfl, b1, b2⟩ := i32x x1
  intro M hI hfr
  obtain ⟨r, lw, H, im, ilw, bt, ln, fr, dr, ms, hp, hc, hr⟩ := hI
  refine ⟨hc.1.1, fun Q hQ => ?_⟩
  by_cases hx : 0 ≤ x ∧ x ≤ 1
  · obtain ⟨k, hk⟩ := Int.eq_ofNat_of_zero_le hx.1
    subst hk
    have hk2 : k < 2 := by omega
    have ea := aIm_s (A := A) hk2
    obtain ⟨⟨l1, l2, l3⟩, hI⟩ := hc.2.2.2.2.2.1
    have hv := hp.1
    obtain ⟨v1, v2⟩ := hI k hk2
    have lk : LwO M (A + 307 + 11 * k + 10) := by
      rcases (by omega : k = 0 ∨ k = 1) with e | e <;> subst e
      · exact l2
      · exact l3
    cases hi : im k with
    | none =>
      have v0 : g_mi M (A + 307 + 11 * k) 7 = 0 := by rw [v1, hi]; rfl
      refine tX8_back (d := 1307) hc.1 (fun w hw hn => by rw [ea] at hw; cases hw; exact absurd v0 hn) ?_
      unfold fX8_back mX8_back
      rw [ea]
      dsimp only
      rw [if_pos v0, if_pos v0]
      have e2 : (-2 : Int32) = iZ (-2) := by rw [iZ_l2, iZ_neg]
      have q := OG.rf (N := 20000) (K := 1290) (P9 := fun M R => pX9_back 20000 1290 M (A + 329) (iZ (k : Int)) R) (v := -2) (Or.inr (Or.inl rfl)) hp hc (fun M2 hr2 R hR => by
        show pX9_back 20000 1290 M2 (A + 329) (iZ (k : Int)) R
        unfold pX9_back pX9_back_0
        intro v hv
        rw [iZ_l1, lo3 (by omega) (by omega) (by omega) (by omega), decide_eq_true (by omega)] at hv
        subst hv
        have h4 : g_mi M2 (A + 329 + 4) k = 0 := by rw [(hr2.2.2.2.1 k hk2).1, hi]; rfl
        rw [iZ_cl (show k < 2147483648 by omega), h4]
        refine ⟨fun _ => ⟨iZ_in (by omega) (by omega) (by omega), fun z => absurd rfl z, fun _ => ?_⟩, fun z => absurd z (by decide)⟩
        rw [e2]
        exact IR.rf (Or.inr (Or.inl rfl)) hr2 hR)
      rw [← e2] at q
      obtain ⟨k9, r', lw', H', im', ilw', bt', ln', fr', dr', ms', hp', hc', h9'⟩ := rf_m2 q
      have s : Sl M (mX8_refuse M A (-2)) := jX8_refuse.l
      have hr1 := hr.k9 s k9
      refine hQ (-2) _ hr1.1.1 (fun Q2 hQ2 => ?_)
      refine uX9_back (N := 20000) (K := 1290) (d := 1309) hr1.1 (h9' _ hr1) (fun v M2 s2 hv2 => ?_)
      obtain ⟨e, k8, hr2⟩ := hv2
      rw [e]
      exact hQ2 M2 ⟨r', lw', H', im', ilw', bt', ln', fr', dr', ms', hp', (hc' s).k8 s2.l k8, hr2 s2.l⟩
    | some q =>
      have v0 : ¬ g_mi M (A + 307 + 11 * k) 7 = 0 := by rw [v1, hi]; show ¬ iB true = 0; decide
      have Cq := v2 q hi
      obtain ⟨vq, lq⟩ := hp.2.2.2 k q hk2 hi
      have h01 : EX3_copyFrom M (A + 1 + 1) (A + 307 + 11 * k + 1) := by
        unfold EX3_copyFrom EX5_copyFrom
        have e : g_mi (g_cp (g_cp M (A + 307 + 11 * k + 1 + 1) (A + 1 + 1 + 1) 0 0 30) (A + 307 + 11 * k + 1 + 2) (A + 1 + 1 + 2) 0 0 3) (A + 307 + 11 * k + 1 + 3) 3 = iZ (q 33) := by
          rw [mi_cp, if_neg (by omega), mi_cp, if_neg (by omega)]; exact Cq.1.2.2.2.1
        rw [e]
        rcases vq.t.1 with z | z
        · rw [z]; exact Or.inl rfl
        · rw [z]; exact Or.inr rfl
      obtain ⟨C5, sx, f5, f7, l5⟩ := cw_cp (a0 := A + 1) (a1 := A + 307 + 11 * k) (lo := A + 353) (by omega) (by omega) (by omega) vq Cq l1 lk
      have sq5 := jX7_copyFrom (M := M) (a0 := A + 1) (a1 := A + 307 + 11 * k) hc.1.2.2.1
      refine tX8_back (d := 1307) hc.1 (fun w hw _ => by rw [ea] at hw; cases hw; exact ⟨lk, h01⟩) ?_
      unfold fX8_back mX8_back
      rw [ea]
      dsimp only
      rw [if_neg v0, if_neg v0]
      unfold mX8_accept mX0_clear
      generalize mX7_copyFrom M (A + 1) (A + 307 + 11 * k) = M5 at *
      generalize h6 : g_wi M5 (A + 13) 3 0 = M6
      generalize h7 : g_wi M6 A 16 0 = M7
      obtain ⟨a1, a2, a3⟩ := wi_k h6.symm
      obtain ⟨d1, d2, d3⟩ := wi_k h7.symm
      have s57 : Sl M5 M7 := by rw [← h7, ← h6]; exact ⟨rfl, rfl, rfl⟩
      have sx7 : Sxe (A + 1 + 10) M M7 := ⟨by rw [s57.1, sx.1], fun c hc => by rw [s57.2.1, sx.2.1 c hc], by rw [s57.2.2, sx.2.2]⟩
      have kk : ∀ c, c ≠ A → c ≠ A + 13 → (c < A + 1 ∨ A + 10 < c) → g_mi M7 c = g_mi M c := fun c q1 q2 q3 => by rw [d1 c q1, a1 c q2, f5 c (by omega)]
      have kA : ∀ j, j ≠ 16 → g_mi M7 A j = g_mi M A j := fun j q => by rw [d2 j q, a1 _ (by omega), f5 _ (by omega)]
      have hm7 : Mo M7 (A + 329) := hr.1.x sx7 (by omega)
      have hr7 : IR M7 (A + 329) r H im bt ln fr dr ms := hr.kex hm7 (fun c q1 q2 => kk c (by omega) (by omega) (by omega))
      have hp7 : PVs q (ilw k) [] im ilw := ⟨vq, lq, fun e he => (by cases he), hp.2.2.2⟩
      have hc7 : IC M7 A q (ilw k) [] im ilw bt ln fr dr (va_up ms 0 0) := by
        obtain ⟨g1, g2, g3, ⟨f, g4⟩, g5, g6, g7, g8, g9, g10, g11, g12, g13⟩ := hc
        refine ⟨Ph.sq (Sq.tr sq5 (Sl.sq s57)) g1, ?_, g3.x sx7 (by omega) (fun c q1 q2 => kk c (by omega) (by omega) (by omega)), ⟨f, (nil_H (H := H) (M := M5) (g4.keep (fun c q1 q2 => f5 c (by omega))) h6.symm).keep (fun c q1 q2 => d1 c (by omega))⟩, g5.keep (by rw [kk _ (by omega) (by omega) (by omega)]), ⟨⟨l5.sl s57, l2.x sx7 (by omega), l3.x sx7 (by omega)⟩, fun j hj => ?_⟩, g7.kp (by rw [kk _ (by omega) (by omega) (by omega)]) (kk _ (by omega) (by omega) (by omega)), g8.kp (kk _ (by omega) (by omega) (by omega)), g9.kp (kk _ (by omega) (by omega) (by omega)), d3, by rw [kk _ (by omega) (by omega) (by omega)]; exact g11, by rw [kA 15 (by omega)]; exact g12, by rw [kA 14 (by omega)]; exact g13⟩
        · exact C5.keep s57 (fun c q1 q2 => by rw [d1 c (by omega), a1 c (by omega)]) (fun c q => by rw [d1 c (by omega), a1 c (by omega)])
        · obtain ⟨w1, w2⟩ := hI j hj
          exact ⟨by rw [kk _ (by omega) (by omega) (by omega)]; exact w1, fun p hq => (w2 p hq).x sx7 (by omega) (by omega) (fun c q1 q2 => ⟨fun e => by rw [kk c (by omega) (by omega) (by omega)]; exact ⟨rfl, rfl, rfl⟩, fun _ => kk c (by omega) (by omega) (by omega)⟩) (fun c q => kk c (by omega) (by omega) (by omega))⟩
      refine hQ 0 M7 hm7.1 (fun Q2 hQ2 => ?_)
      refine uX9_back (N := 20000) (K := 1290) (d := 1309) (R := fun v M2 => v = 0 ∧ Kp8 A M7 M2 ∧ (Sl M7 M2 → IR M2 (A + 329) q [] im bt ln fr dr (va_up ms 0 0))) hm7 (bk_9 (by omega) hk2 hr7.2.1 (by rw [(hr7.2.2.2.1 k hk2).1, hi]; rfl) ((hr7.2.2.2.1 k hk2).2 q hi) (fun M8 k8 R8 u8 s8 => ⟨rfl, fun c w => by funext j; exact k8 c j (by omega) (by omega), fun s => ?_⟩)) (fun v M2 s2 hv2 => ?_)
      · have kc : ∀ c, c ≠ A + 329 → c ≠ A + 329 + 2 → g_mi M8 c = g_mi M7 c := fun c q0 q1 => by funext j; exact k8 c j q1 (Or.inl q0)
        have k0 : ∀ j, j ≠ 0 → j ≠ 38 → g_mi M8 (A + 329) j = g_mi M7 (A + 329) j := fun j q1 q2 => k8 _ j (by omega) (Or.inr ⟨q1, q2⟩)
        refine hr7.mix s (fun c w => kc c (by omega) (by omega)) R8 ⟨by simp, u8, fun j e he => (by cases he)⟩ (hr7.2.2.2.2.1.1.kp (kc _ (by omega) (by omega))) (by rw [k0 _ (by omega) (by omega)]; exact hr7.2.2.2.2.1.2.1) (hr7.2.2.2.2.2.1.kp (kc _ (by omega) (by omega))) (hr7.2.2.2.2.2.2.1.kp (k0 _ (by omega) (by omega)) (kc _ (by omega) (by omega))) ⟨s8, ?_, ?_, ?_⟩
        · rw [k0 _ (by omega) (by omega)]; exact hr7.2.2.2.2.2.2.2.2.1
        · rw [k0 _ (by omega) (by omega)]; exact hr7.2.2.2.2.2.2.2.2.2.1
        · rw [k0 _ (by omega) (by omega)]; exact hr7.2.2.2.2.2.2.2.2.2.2
      · obtain ⟨e, k9, hr9⟩ := hv2
        rw [e]
        exact hQ2 M2 ⟨q, ilw k, [], im, ilw, bt, ln, fr, dr, _, hp7, hc7.k8 s2.l k9, hr9 s2.l⟩
  · have en := aIm_n (A := A) b1 b2 hx
    refine tX8_back (d := 1307) hc.1 (fun w hw => by rw [en] at hw; cases hw) ?_
    unfold fX8_back mX8_back
    rw [en]
    dsimp only
    have q := OG.rf (N := 20000) (K := 1290) (P9 := fun M R => pX9_back 20000 1290 M (A + 329) (iZ x) R) (v := -1) (Or.inl rfl) hp hc (fun M2 hr2 R hR => by
      show pX9_back 20000 1290 M2 (A + 329) (iZ x) R
      unfold pX9_back pX9_back_0
      intro v hv
      rw [iZ_l1, lo3 b1 b2 (by omega) (by omega), decide_eq_false hx] at hv
      subst hv
      refine ⟨fun z => absurd rfl z, fun _ => ?_⟩
      rw [iZ_n1]
      exact IR.rf (Or.inl rfl) hr2 hR)
    rw [← iZ_n1] at q
    obtain ⟨k9, r', lw', H', im', ilw', bt', ln', fr', dr', ms', hp', hc', h9'⟩ := rf_m1 q
    have s : Sl M (mX8_refuse M A (-1)) := jX8_refuse.l
    have hr1 := hr.k9 s k9
    refine hQ (-1) _ hr1.1.1 (fun Q2 hQ2 => ?_)
    refine uX9_back (N := 20000) (K := 1290) (d := 1309) hr1.1 (h9' _ hr1) (fun v M2 s2 hv2 => ?_)
    obtain ⟨e, k8, hr2⟩ := hv2
    rw [e]
    exact hQ2 M2 ⟨r', lw', H', im', ilw', bt', ln', fr', dr', ms', hp', (hc' s).k8 s2.l k8, hr2 s2.l⟩
end IMO
