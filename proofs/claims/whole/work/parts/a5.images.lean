/-! Calls: image, back. -/
def Sxe (e : Nat) (M M1 : gM) : Prop := g_kd M1 = g_kd M ∧ (∀ c, c ≠ e → g_mr M1 c = g_mr M c) ∧ g_nx M1 = g_nx M
theorem TL.x {M M1 : gM} {e x : Nat} {cs : List (Nat × Cl)} (h : TL M x cs) (hs : Sxe e M M1) (he : x ≠ e) (k : ∀ c, x ≤ c → c ≤ x + 6 → g_mi M1 c = g_mi M c) : TL M1 x cs := by
  have e2 : ∀ c, kl M1 c = kl M c := fun c => by unfold kl; rw [hs.1]
  obtain ⟨a1, a2⟩ := h
  unfold TL TxO at *
  rw [e2, e2]
  refine ⟨?_, a2.keep k⟩
  unfold Tx at a1 ⊢
  rw [hs.1, hs.2.1 x he]
  exact a1
theorem Mo.x {M M1 : gM} {e b : Nat} (h : Mo M b) (hs : Sxe e M M1) (he : b ≠ e) : Mo M1 b := by
  unfold Mo at h ⊢
  rw [hs.1, hs.2.1 b he]
  exact h
theorem CW.x {M M1 : gM} {e lo w : Nat} {r : Nat → Int} {lw : LWs} (h : CW M lo w r lw) (hs : Sxe e M M1) (he : w + 10 ≠ e) (hl : e < lo) (k1 : ∀ c, w ≤ c → c ≤ w + 9 → (c = w → g_mi M1 c 4 = g_mi M c 4 ∧ g_mi M1 c 5 = g_mi M c 5 ∧ g_mi M1 c 6 = g_mi M c 6) ∧ (c ≠ w → g_mi M1 c = g_mi M c)) (k2 : ∀ c, lo ≤ c → g_mi M1 c = g_mi M c) : CW M1 lo w r lw := by
  obtain ⟨a1, a2, a3, a4, a5, a6⟩ := h
  obtain ⟨w4, w5, w6⟩ := (k1 w (by omega) (by omega)).1 rfl
  have kc : ∀ c, w + 1 ≤ c → c ≤ w + 9 → g_mi M1 c = g_mi M c := fun c q1 q2 => (k1 c (by omega) q2).2 (by omega)
  refine ⟨a1.keep (fun c q1 q2 => kc c (by omega) (by omega)), by rw [w4]; exact a2, by rw [w5]; exact a3, by rw [w6]; exact a4, fun i hi => ?_, fun t ht => ?_⟩
  · rw [kc (w + 8) (by omega) (by omega), kc (w + 9) (by omega) (by omega)]; exact a5 i hi
  · obtain ⟨x, x1, x2, x3⟩ := a6 t ht
    exact ⟨x, x1, by rw [hs.2.1 _ he]; exact x2, x3.x hs (by omega) (fun c q1 q2 => k2 c (by omega))⟩
theorem mX5_ne {M : gM} {a0 a1 : Nat} (c : ¬ (g_mi (g_wi M a0 3 (g_mi M a1 3)) a0 3) = 0) : mX5_copyFrom M a0 a1 = (g_wi (g_wi (g_wi (g_cp (g_cp (g_cp (g_wi M a0 3 (g_mi M a1 3)) (a1 + 1) (a0 + 1) 0 0 30) (a1 + 2) (a0 + 2) 0 0 60) (a1 + 3) (a0 + 3) 0 0 60) a0 4 (g_mi (g_cp (g_cp (g_cp (g_wi M a0 3 (g_mi M a1 3)) (a1 + 1) (a0 + 1) 0 0 30) (a1 + 2) (a0 + 2) 0 0 60) (a1 + 3) (a0 + 3) 0 0 60) a1 4)) a0 5 (g_mi (g_wi (g_cp (g_cp (g_cp (g_wi M a0 3 (g_mi M a1 3)) (a1 + 1) (a0 + 1) 0 0 30) (a1 + 2) (a0 + 2) 0 0 60) (a1 + 3) (a0 + 3) 0 0 60) a0 4 (g_mi (g_cp (g_cp (g_cp (g_wi M a0 3 (g_mi M a1 3)) (a1 + 1) (a0 + 1) 0 0 30) (a1 + 2) (a0 + 2) 0 0 60) (a1 + 3) (a0 + 3) 0 0 60) a1 4)) a1 5)) a0 6 (g_mi (g_wi (g_wi (g_cp (g_cp (g_cp (g_wi M a0 3 (g_mi M a1 3)) (a1 + 1) (a0 + 1) 0 0 30) (a1 + 2) (a0 + 2) 0 0 60) (a1 + 3) (a0 + 3) 0 0 60) a0 4 (g_mi (g_cp (g_cp (g_cp (g_wi M a0 3 (g_mi M a1 3)) (a1 + 1) (a0 + 1) 0 0 30) (a1 + 2) (a0 + 2) 0 0 60) (a1 + 3) (a0 + 3) 0 0 60) a1 4)) a0 5 (g_mi (g_wi (g_cp (g_cp (g_cp (g_wi M a0 3 (g_mi M a1 3)) (a1 + 1) (a0 + 1) 0 0 30) (a1 + 2) (a0 + 2) 0 0 60) (a1 + 3) (a0 + 3) 0 0 60) a0 4 (g_mi (g_cp (g_cp (g_cp (g_wi M a0 3 (g_mi M a1 3)) (a1 + 1) (a0 + 1) 0 0 30) (a1 + 2) (a0 + 2) 0 0 60) (a1 + 3) (a0 + 3) 0 0 60) a1 4)) a1 5)) a1 6)) := by
  unfold mX5_copyFrom
  rw [if_neg c]
  rfl
theorem cps_m {M : gM} {t s : Nat} {r : Nat → Int} (ds : t + 6 < s ∨ s + 6 < t) (hK : Vk r) (hV : Vt r) (hR : RS M s r) : (∀ c, (c < t ∨ t + 6 < c) → g_mi (mX3_copyFrom M t s) c = g_mi M c) ∧ RS (mX3_copyFrom M t s) t r := by
  have P := cp_S (N := 0) (K := 0) (R := fun M1 => (∀ c, (c < t ∨ t + 6 < c) → g_mi M1 c = g_mi M c) ∧ RS M1 t r) ds hK hV hR (fun M1 f1 s1 => ⟨f1, s1⟩)
  unfold pX3_copyFrom at P
  have P2 := P _ rfl _ rfl
  unfold pX5_copyFrom at P2
  have P3 := P2.2 _ rfl
  unfold mX3_copyFrom
  by_cases c : (g_mi (g_wi (g_cp (g_cp M (s + 1) (t + 1) 0 0 30) (s + 2) (t + 2) 0 0 3) (t + 3) 3 (g_mi (g_cp (g_cp M (s + 1) (t + 1) 0 0 30) (s + 2) (t + 2) 0 0 3) (s + 3) 3)) (t + 3) 3) = 0
  · have e : mX5_copyFrom (g_cp (g_cp M (s + 1) (t + 1) 0 0 30) (s + 2) (t + 2) 0 0 3) (t + 3) (s + 3) = g_wi (g_cp (g_cp M (s + 1) (t + 1) 0 0 30) (s + 2) (t + 2) 0 0 3) (t + 3) 3 (g_mi (g_cp (g_cp M (s + 1) (t + 1) 0 0 30) (s + 2) (t + 2) 0 0 3) (s + 3) 3) := by
      unfold mX5_copyFrom
      rw [if_pos c]
      rfl
    rw [e]
    exact P3.2 c _ rfl _ rfl _ rfl
  · have P4 := P3.1 c _ rfl _ rfl _ rfl _ rfl _ rfl _ rfl _ rfl _ rfl _ rfl
    have e := mX5_ne c
    rw [e]
    exact P4
section IMG
variable {A b : Nat} {r : Nat → Int} {lw : LWs}
/-- a Whole copied -/
theorem cw_cp {M : gM} {a0 a1 lo : Nat} (hne : a0 + 20 < a1 ∨ a1 + 20 < a0) (h0 : a0 + 10 < lo) (h1 : a1 + 10 < lo) (vr : Vr r) (h : CW M lo a1 r lw) (hl0 : LwO M (a0 + 10)) (hl1 : LwO M (a1 + 10)) : CW (mX7_copyFrom M a0 a1) lo a0 r lw ∧ Sxe (a0 + 10) M (mX7_copyFrom M a0 a1) ∧ (∀ c, (c < a0 ∨ a0 + 9 < c) → g_mi (mX7_copyFrom M a0 a1) c = g_mi M c) ∧ (∀ j, j ≠ 4 → j ≠ 5 → j ≠ 6 → g_mi (mX7_copyFrom M a0 a1) a0 j = g_mi M a0 j) ∧ LwO (mX7_copyFrom M a0 a1) (a0 + 10) := by
  obtain ⟨s1, s2, s3, s4, s5, s6⟩ := h
  have nb := vr.n
  have lb := vr.l
  obtain ⟨c1, c2⟩ := cps_m (t := a0 + 1) (s := a1 + 1) (by omega) vr.k vr.t s1
  have j2 : Sm M (mX3_copyFrom M (a0 + 1) (a1 + 1)) := jX3_copyFrom
  unfold mX7_copyFrom
  generalize mX3_copyFrom M (a0 + 1) (a1 + 1) = M2 at *
  have i3 : ∀ c j, g_mi (mq (mw7 M2 a0 a1 6) a0 a1 6) c j = if c = a0 + 8 ∧ j < 6 then g_mi M2 (a1 + 8) j else if c = a0 + 9 ∧ j < 6 then g_mi M2 (a1 + 9) j else g_mi M2 c j := fun c j => rfl
  have r3 : ∀ c j, g_mr (mq (mw7 M2 a0 a1 6) a0 a1 6) c j = if c = a0 + 10 ∧ j < 6 then g_mr M2 (a1 + 10) j else g_mr M2 c j := fun c j => rfl
  have k3 : g_kd (mq (mw7 M2 a0 a1 6) a0 a1 6) = g_kd M2 := rfl
  have n3 : g_nx (mq (mw7 M2 a0 a1 6) a0 a1 6) = g_nx M2 := rfl
  generalize mq (mw7 M2 a0 a1 6) a0 a1 6 = M3 at *
  have oth : ∀ c, c ≠ a0 + 8 → c ≠ a0 + 9 → g_mi M3 c = g_mi M2 c := fun c q1 q2 => by
    funext j
    rw [i3, if_neg (by omega), if_neg (by omega)]
  have f1 : ∀ j, g_mi M3 a1 j = g_mi M a1 j := fun j => by rw [oth _ (by omega) (by omega), c1 _ (by omega)]
  unfold mX7_p
  have g5 : ∀ c j, g_mi (g_wi (g_wi (g_wi M3 a0 4 (g_mi M3 a1 4)) a0 5 (g_mi (g_wi M3 a0 4 (g_mi M3 a1 4)) a1 5)) a0 6 (g_mi (g_wi (g_wi M3 a0 4 (g_mi M3 a1 4)) a0 5 (g_mi (g_wi M3 a0 4 (g_mi M3 a1 4)) a1 5)) a1 6)) c j = if c = a0 ∧ j = 6 then g_mi M a1 6 else if c = a0 ∧ j = 5 then g_mi M a1 5 else if c = a0 ∧ j = 4 then g_mi M a1 4 else g_mi M3 c j := fun c j => by
    rw [mi_wi, mi_wi, mi_wi, mi_wi, if_neg (show ¬ (a1 = a0 ∧ 6 = 5) by omega), mi_wi, if_neg (show ¬ (a1 = a0 ∧ 6 = 4) by omega), mi_wi, if_neg (show ¬ (a1 = a0 ∧ 5 = 4) by omega), f1, f1, f1]
  have r5 : ∀ x y z, g_mr (g_wi (g_wi (g_wi M3 a0 4 x) a0 5 y) a0 6 z) = g_mr M3 := fun _ _ _ => rfl
  have k5 : ∀ x y z, g_kd (g_wi (g_wi (g_wi M3 a0 4 x) a0 5 y) a0 6 z) = g_kd M3 := fun _ _ _ => rfl
  have n5 : ∀ x y z, g_nx (g_wi (g_wi (g_wi M3 a0 4 x) a0 5 y) a0 6 z) = g_nx M3 := fun _ _ _ => rfl
  generalize hM5 : g_wi (g_wi (g_wi M3 a0 4 (g_mi M3 a1 4)) a0 5 (g_mi (g_wi M3 a0 4 (g_mi M3 a1 4)) a1 5)) a0 6 (g_mi (g_wi (g_wi M3 a0 4 (g_mi M3 a1 4)) a0 5 (g_mi (g_wi M3 a0 4 (g_mi M3 a1 4)) a1 5)) a1 6) = M5 at *
  have kd : g_kd M5 = g_kd M := by rw [← hM5, k5, k3]; exact j2.1
  have mr : ∀ c j, g_mr M5 c j = if c = a0 + 10 ∧ j < 6 then g_mr M (a1 + 10) j else g_mr M c j := fun c j => by rw [← hM5, r5, r3, j2.2.1]
  have nx : g_nx M5 = g_nx M := by rw [← hM5, n5, n3]; exact j2.2.2.1
  have sx : Sxe (a0 + 10) M M5 := ⟨kd, fun c hc => by funext j; rw [mr, if_neg (by omega)], nx⟩
  have fr : ∀ c, (c < a0 ∨ a0 + 9 < c) → g_mi M5 c = g_mi M c := fun c q => by
    funext j
    rw [g5, if_neg (by omega), if_neg (by omega), if_neg (by omega), oth c (by omega) (by omega), c1 c (by omega)]
  refine ⟨⟨c2.keep (fun c q1 q2 => ?_), ?_, ?_, ?_, fun i hi => ⟨?_, ?_⟩, fun t ht => ?_⟩, sx, fr, fun j q1 q2 q3 => ?_, fun i v hv => ?_⟩
  · funext j
    rw [g5, if_neg (by omega), if_neg (by omega), if_neg (by omega), oth c (by omega) (by omega)]
  · rw [g5, if_neg (by omega), if_neg (by omega), if_pos ⟨rfl, rfl⟩]; exact s2
  · rw [g5, if_neg (by omega), if_pos ⟨rfl, rfl⟩]; exact s3
  · rw [g5, if_pos ⟨rfl, rfl⟩]; exact s4
  · rw [g5, if_neg (by omega), if_neg (by omega), if_neg (by omega), i3, if_pos ⟨rfl, by omega⟩, c1 _ (by omega)]; exact (s5 i hi).1
  · rw [g5, if_neg (by omega), if_neg (by omega), if_neg (by omega), i3, if_neg (by omega), if_pos ⟨rfl, by omega⟩, c1 _ (by omega)]; exact (s5 i hi).2
  · obtain ⟨x, x1, x2, x3⟩ := s6 t ht
    exact ⟨x, x1, by rw [mr, if_pos ⟨rfl, by omega⟩]; exact x2, x3.x sx (by omega) (fun c q1 q2 => fr c (by omega))⟩
  · rw [g5, if_neg (by omega), if_neg (by omega), if_neg (by omega), oth a0 (by omega) (by omega), c1 a0 (by omega)]
  · rw [mr] at hv
    rw [kd]
    split at hv
    · exact hl1 i v hv
    · exact hl0 i v hv
theorem rf_m1 {N K : Nat} {M : gM} {R : Int32 → gM → Prop} (h : pX8_refuse N K M A (-1) R) : R (-1) (mX8_refuse M A (-1)) := by
  unfold pX8_refuse at h
  have h6 := (((((h _ rfl).2 (by decide)).2 (by decide)).2 (by decide)).2 (by decide)).1 rfl _ rfl
  unfold mX8_refuse
  rw [if_neg (by decide), if_neg (by decide), if_neg (by decide), if_neg (by decide), if_pos rfl]
  exact h6
theorem rf_m2 {N K : Nat} {M : gM} {R : Int32 → gM → Prop} (h : pX8_refuse N K M A (-2) R) : R (-2) (mX8_refuse M A (-2)) := by
  unfold pX8_refuse at h
  have h6 := ((((h _ rfl).2 (by decide)).2 (by decide)).2 (by decide)).1 rfl _ rfl
  unfold mX8_refuse
  rw [if_neg (by decide), if_neg (by decide), if_neg (by decide), if_pos rfl]
  exact h6
end IMG
section IM9
variable {N K b : Nat} {r : Nat → Int}
/-- the reference's image -/
theorem im_9 {M : gM} {R : Int32 → gM → Prop} {x : Nat} (hN : 10000 ≤ N) (hx : x < 2) (hR : Rr M b r) (hE : ∀ M1, (∀ c j, c ≠ b + 3 → c ≠ b + 4 → (c ≠ b ∨ j ≠ 0) → g_mi M1 c j = g_mi M c j) → (∀ k i, k < 2 → i < 5812 → g_mi M1 (b + 3) (5812 * k + i) = if k = x then iZ (r i) else g_mi M (b + 3) (5812 * k + i)) → (∀ k, g_mi M1 (b + 4) k = if k = x then 1 else g_mi M (b + 4) k) → g_mi M1 b 0 = 0 → R 0 M1) : pX9_image N K M b (iZ x) R := by
  unfold pX9_image pX9_image_0
  intro v hv
  rw [iZ_l1, lo3 (by omega) (by omega) (by omega) (by omega), decide_eq_true (by omega)] at hv
  subst hv
  refine ⟨fun _ => ?_, fun z => absurd z (by decide)⟩
  have loop : ∀ (e u g : Nat) (M1 : gM), u + e = 5812 → e + 1 ≤ g → (∀ c, c ≠ b + 3 → g_mi M1 c = g_mi M c) → (∀ k i, k < 2 → i < 5812 → g_mi M1 (b + 3) (5812 * k + i) = if k = x ∧ i < u then iZ (r i) else g_mi M (b + 3) (5812 * k + i)) → qX9_image N K R g 0 M1 b (iZ x) (iZ u) := by
    intro e
    induction e with
    | zero =>
      intro u g M1 hu hg f hl
      obtain ⟨g2, rfl⟩ : ∃ g2, g = g2 + 1 := ⟨g - 1, by omega⟩
      rw [qX9_image]
      unfold pX9_image_17
      have c1 : (5812 : Int32) ≤ iZ (u : Int) := by rw [show (5812 : Int32) = iZ 5812 from rfl, iZ_le (by omega) (by omega) (by omega) (by omega)]; omega
      rw [iZ_cl (show x < 2147483648 by omega)]
      refine ⟨fun _ => ⟨iZ_in (by omega) (by omega) (by omega), fun M2 h2 => ?_⟩, fun z => absurd c1 z⟩
      unfold pX9_good0
      intro M3 h3
      obtain ⟨a1, a2, a3⟩ := wi_k h2
      obtain ⟨d1, d2, d3⟩ := wi_k h3
      refine hE M3 (fun c j q1 q2 q3 => ?_) (fun k i q1 q2 => ?_) (fun k => ?_) d3
      · by_cases w : c = b
        · subst w; rw [d2 j (by omega), a1 _ (by omega), f _ (by omega)]
        · rw [d1 c w, a1 c q2, f c q1]
      · rw [d1 _ (by omega), a1 _ (by omega), hl k i q1 q2]
        by_cases w : k = x
        · rw [if_pos ⟨w, by omega⟩, if_pos w]
        · rw [if_neg (by omega), if_neg w]
      · rw [d1 _ (by omega)]
        by_cases w : k = x
        · rw [if_pos w, w, a3]
        · rw [if_neg w, a2 k w, f _ (by omega)]
    | succ e ih =>
      intro u g M1 hu hg f hl
      obtain ⟨g2, rfl⟩ : ∃ g2, g = g2 + 1 := ⟨g - 1, by omega⟩
      rw [qX9_image]
      unfold pX9_image_17
      have c1 : ¬ (5812 : Int32) ≤ iZ (u : Int) := by rw [show (5812 : Int32) = iZ 5812 from rfl, iZ_le (by omega) (by omega) (by omega) (by omega)]; omega
      have ex : (5812 : Int32) * iZ (x : Int) + iZ (u : Int) = iZ ((5812 * x + u : Nat) : Int) := by rw [show (5812 : Int32) = iZ 5812 from rfl, iZ_mul, iZ_add]; congr 1
      rw [ex, iZ_cl (show u < 2147483648 by omega), iZ_cl (show 5812 * x + u < 2147483648 by omega), f (b + 2) (by omega), hR u (by omega), iZ_s1]
      refine ⟨fun z => absurd z c1, fun _ => ⟨iZ_in (by omega) (by omega) (by omega), iZ_in (by omega) (by omega) (by omega), fun M3 h3 => ?_⟩⟩
      obtain ⟨a1, a2, a3⟩ := wi_k h3
      refine ih (u + 1) g2 M3 (by omega) (by omega) (fun c q => by rw [a1 c q, f c q]) (fun k i q1 q2 => ?_)
      by_cases w : k = x ∧ i = u
      · obtain ⟨w1, w2⟩ := w
        rw [w1, w2, a3, if_pos ⟨rfl, by omega⟩]
      · rw [a2 _ (by omega), hl k i q1 q2]
        by_cases w2 : k = x ∧ i < u
        · rw [if_pos w2, if_pos (by omega)]
        · rw [if_neg w2, if_neg (by omega)]
  exact loop 5812 0 N M (by omega) (by omega) (fun _ _ => rfl) (fun k i q1 q2 => by rw [if_neg (by omega)])
theorem bk_9 {M : gM} {R : Int32 → gM → Prop} {x : Nat} {q : Nat → Int} (hN : 10000 ≤ N) (hx : x < 2) (hR : Rr M b r) (h1 : g_mi M (b + 4) x = 1) (hq : ∀ i, i < 5812 → g_mi M (b + 3) (5812 * x + i) = iZ (q i)) (hE : ∀ M1, (∀ c j, c ≠ b + 2 → (c ≠ b ∨ (j ≠ 0 ∧ j ≠ 38)) → g_mi M1 c j = g_mi M c j) → Rr M1 b q → g_mi M1 b 38 = 0 → g_mi M1 b 0 = 0 → R 0 M1) : pX9_back N K M b (iZ x) R := by
  unfold pX9_back pX9_back_0
  intro v hv
  rw [iZ_l1, lo3 (by omega) (by omega) (by omega) (by omega), decide_eq_true (by omega)] at hv
  subst hv
  rw [iZ_cl (show x < 2147483648 by omega), h1]
  refine ⟨fun _ => ⟨iZ_in (by omega) (by omega) (by omega), fun _ => ?_, fun z => absurd z (by decide)⟩, fun z => absurd z (by decide)⟩
  have loop : ∀ (e u g : Nat) (M1 : gM), u + e = 5812 → e + 1 ≤ g → (∀ c, c ≠ b + 2 → g_mi M1 c = g_mi M c) → (∀ i, i < u → g_mi M1 (b + 2) i = iZ (q i)) → qX9_back N K R g 0 M1 b (iZ x) (iZ u) := by
    intro e
    induction e with
    | zero =>
      intro u g M1 hu hg f hl
      obtain ⟨g2, rfl⟩ : ∃ g2, g = g2 + 1 := ⟨g - 1, by omega⟩
      rw [qX9_back]
      unfold pX9_back_33
      have c1 : (5812 : Int32) ≤ iZ (u : Int) := by rw [show (5812 : Int32) = iZ 5812 from rfl, iZ_le (by omega) (by omega) (by omega) (by omega)]; omega
      refine ⟨fun _ => ?_, fun z => absurd c1 z⟩
      unfold pX9_settled pX9_good0
      intro M2 h2 M3 h3
      obtain ⟨a1, a2, a3⟩ := wi_k h2
      obtain ⟨d1, d2, d3⟩ := wi_k h3
      refine hE M3 (fun c j q1 q2 => ?_) (fun i hi => ?_) (by rw [d2 38 (by omega), a3]) d3
      · by_cases w : c = b
        · subst w; rw [d2 j (by omega), a2 j (by omega), f _ (by omega)]
        · rw [d1 c w, a1 c w, f c q1]
      · rw [d1 _ (by omega), a1 _ (by omega)]; exact hl i (by omega)
    | succ e ih =>
      intro u g M1 hu hg f hl
      obtain ⟨g2, rfl⟩ : ∃ g2, g = g2 + 1 := ⟨g - 1, by omega⟩
      rw [qX9_back]
      unfold pX9_back_33
      have c1 : ¬ (5812 : Int32) ≤ iZ (u : Int) := by rw [show (5812 : Int32) = iZ 5812 from rfl, iZ_le (by omega) (by omega) (by omega) (by omega)]; omega
      have ex : (5812 : Int32) * iZ (x : Int) + iZ (u : Int) = iZ ((5812 * x + u : Nat) : Int) := by rw [show (5812 : Int32) = iZ 5812 from rfl, iZ_mul, iZ_add]; congr 1
      rw [ex, iZ_cl (show u < 2147483648 by omega), iZ_cl (show 5812 * x + u < 2147483648 by omega), f (b + 3) (by omega), hq u (by omega), iZ_s1]
      refine ⟨fun z => absurd z c1, fun _ => ⟨iZ_in (by omega) (by omega) (by omega), iZ_in (by omega) (by omega) (by omega), fun M3 h3 => ?_⟩⟩
      obtain ⟨a1, a2, a3⟩ := wi_k h3
      refine ih (u + 1) g2 M3 (by omega) (by omega) (fun c q => by rw [a1 c q, f c q]) (fun i hi => ?_)
      by_cases w : i = u
      · rw [w, a3]
      · rw [a2 i w]; exact hl i (by omega)
  exact loop 5812 0 N M (by omega) (by omega) (fun _ _ => rfl) (fun i hi => by omega)
end IM9
