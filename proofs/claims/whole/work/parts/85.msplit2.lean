/-! The reference splits the tape: all of it. -/
def Mca (M : gM) (b : Nat) (bt : Nat → Int) (len k : Nat) (L : List (Nat × Nat)) : Prop := ∀ i, i < k → g_mi M (b + 9) i = iZ (at0 (cdT bt) 0 L i) ∧ g_mi M (b + 10) i = iZ (at0 (vlT bt) 0 L i) ∧ g_mi M (b + 11) i = iZ (at0 (fun x => (x.1 : Int)) len L i)
def Fzz (b : Nat) (M M1 : gM) : Prop := ∀ c j, c ≠ b + 9 → c ≠ b + 10 → c ≠ b + 11 → (c ≠ b ∨ j ≠ 18) → g_mi M1 c j = g_mi M c j
theorem Fzz.tr {b : Nat} {M M1 M2 : gM} (h : Fzz b M M1) (h2 : Fzz b M1 M2) : Fzz b M M2 := fun c j q1 q2 q3 q4 => (h2 c j q1 q2 q3 q4).trans (h c j q1 q2 q3 q4)
theorem Mb.fz {b : Nat} {bt : Nat → Int} {len : Nat} {M M1 : gM} (h : Mb M b bt len) (f : Fzz b M M1) : Mb M1 b bt len := ⟨h.1, fun i hi => by rw [f _ _ (by omega) (by omega) (by omega) (by omega)]; exact h.2 i hi⟩
theorem Vw.fz {b : Nat} {M M1 : gM} (h : Vw M b) (f : Fzz b M M1) : Vw M1 b := fun j hj => by rw [f _ _ (by omega) (by omega) (by omega) (by omega)]; exact h j hj
theorem sb_an {x : Int} (h1 : 0 ≤ x) (h2 : x ≤ 255) : (iZ (sb x) &&& 255) = iZ x := by
  have := sb_and ⟨x.toNat, by omega⟩
  dsimp only at this
  rw [Int.toNat_of_nonneg h1] at this
  exact this
def spF (N K : Nat) (kp : Nat → gM → Nat → Int32 → Int32 → Int32 → Int32 → Int32 → Prop) (M : gM) (b : Nat) (x1 x2 x3 x4 : Int32) : Prop := (vp_in ((g_mi M b 18)) 401) ∧ ∀ M1 : gM, M1 = (g_wi M (b + 11) ((g_mi M b 18)).toNatClampNeg x2) → (vp_in ((g_mi M1 b 18)) 401) ∧ ∀ M2 : gM, M2 = (g_wi M1 (b + 10) ((g_mi M1 b 18)).toNatClampNeg 0) → ∀ v1 : Int32, v1 = (fX9_isSmall x3) → ((v1 = 0 → ∀ v2 : Int32, v2 = (fX9_isDigit x3) → ((v2 = 0 → (vp_in ((g_mi M2 b 18)) 401) ∧ ∀ M3 : gM, M3 = (g_wi M2 (b + 9) ((g_mi M2 b 18)).toNatClampNeg (100 + (x3 &&& 255))) → kp 3 M3 b x1 0 x3 x4 x2) ∧ (¬ v2 = 0 → (vp_in ((g_mi M2 b 18)) 401) ∧ ∀ M4 : gM, M4 = (g_wi M2 (b + 9) ((g_mi M2 b 18)).toNatClampNeg 50) → kp 3 M4 b x1 0 x3 x4 x2))) ∧ (¬ v1 = 0 → pX9_wordOf N K M2 b x2 x4 (fun v3 => (vp_in ((g_mi M2 b 18)) 401) ∧ ∀ M5 : gM, M5 = (g_wi M2 (b + 9) ((g_mi M2 b 18)).toNatClampNeg v3) → kp 3 M5 b x1 0 x3 x4 x2)))
section MSP
variable {N K b : Nat} {bt : Nat → Int} {len : Nat}
/-- a token's code laid down -/
theorem spF_ok {M : gM} {kp : Nat → gM → Nat → Int32 → Int32 → Int32 → Int32 → Int32 → Prop} {k s e : Nat} (hN : 500 ≤ N) (hB : Mb M b bt len) (hW : Vw M b) (hk : k ≤ 400) (h18 : g_mi M b 18 = iZ k) (hse : s < e) (he : e ≤ len) (hs : ∀ j, s ≤ j → j < e → knd (bt j) = knd (bt s)) (hm : knd (bt s) = 2 → e = s + 1) (h : ∀ M1, (∀ c j, ((c ≠ b + 9 ∧ c ≠ b + 10 ∧ c ≠ b + 11) ∨ j ≠ k) → g_mi M1 c j = g_mi M c j) → g_mi M1 (b + 9) k = iZ (cdT bt (s, e)) → g_mi M1 (b + 10) k = iZ 0 → g_mi M1 (b + 11) k = iZ s → kp 3 M1 b (iZ len) 0 (iZ (sb (bt s))) (iZ e) (iZ s)) : spF N K kp M b (iZ len) (iZ s) (iZ (sb (bt s))) (iZ e) := by
  have hl := hB.1
  obtain ⟨b1, b2, b3⟩ := hB.2 s (by omega)
  obtain ⟨r1, r2⟩ := sm_R b2 b3
  have v4 : vp_in (iZ (k : Int)) 401 := iZ_in (by omega) (by omega) (by omega)
  have fin : ∀ (M1 M2 M3 : gM) (z : Int32), M1 = g_wi M (b + 11) k (iZ s) → M2 = g_wi M1 (b + 10) k 0 → M3 = g_wi M2 (b + 9) k z → z = iZ (cdT bt (s, e)) → kp 3 M3 b (iZ len) 0 (iZ (sb (bt s))) (iZ e) (iZ s) := fun M1 M2 M3 z h1 h2 h3 hz => by
    have g : ∀ c j, g_mi M3 c j = if c = b + 9 ∧ j = k then z else if c = b + 10 ∧ j = k then 0 else if c = b + 11 ∧ j = k then iZ s else g_mi M c j := fun c j => by rw [h3, mi_wi, h2, mi_wi, h1, mi_wi]
    refine h M3 (fun c j hc => ?_) ?_ ?_ ?_
    · rw [g, if_neg (by omega), if_neg (by omega), if_neg (by omega)]
    · rw [g, if_pos ⟨rfl, rfl⟩]; exact hz
    · rw [g, if_neg (by omega), if_pos ⟨rfl, rfl⟩]; rfl
    · rw [g, if_neg (by omega), if_neg (by omega), if_pos ⟨rfl, rfl⟩]
  unfold spF
  rw [h18, iZ_cl (show k < 2147483648 by omega)]
  refine ⟨v4, fun M1 h1 => ?_⟩
  have e1 : g_mi M1 b 18 = iZ k := by rw [h1, mi_wi, if_neg (by omega)]; exact h18
  rw [e1, iZ_cl (show k < 2147483648 by omega)]
  refine ⟨v4, fun M2 h2 => ?_⟩
  have e2 : g_mi M2 b 18 = iZ k := by rw [h2, mi_wi, if_neg (by omega)]; exact e1
  rw [e2, iZ_cl (show k < 2147483648 by omega), r1, r2, sb_an b2 b3, iZ_l100, iZ_add]
  refine fun v1 hv1 => ⟨fun z v2 hv2 => ⟨fun y => ⟨v4, fun M3 h3 => ?_⟩, fun y => ⟨v4, fun M3 h3 => ?_⟩⟩, fun z => ?_⟩
  · rw [hv1, iB_0, decide_eq_false_iff_not] at z
    rw [hv2, iB_0, decide_eq_false_iff_not] at y
    refine fin M1 M2 M3 _ h1 h2 h3 ?_
    unfold cdT; rw [if_neg (by exact z), if_neg (by exact y)]
  · rw [hv1, iB_0, decide_eq_false_iff_not] at z
    rw [hv2, iB_0] at y
    have k1 : knd (bt s) = 1 := by
      by_cases c : knd (bt s) = 1
      · exact c
      · exact absurd (decide_eq_false c) y
    refine fin M1 M2 M3 _ h1 h2 h3 ?_
    unfold cdT; rw [if_neg (by exact z), if_pos (by exact k1)]; rfl
  · rw [hv1, iB_0] at z
    have k0 : knd (bt s) = 0 := by
      by_cases c : knd (bt s) = 0
      · exact c
      · exact absurd (decide_eq_false c) z
    have g2 : ∀ c j, c ≠ b + 10 → c ≠ b + 11 → g_mi M2 c j = g_mi M c j := fun c j q1 q2 => by rw [h2, mi_wi, if_neg (by omega), h1, mi_wi, if_neg (by omega)]
    refine mw_ok (bt := bt) hN (by omega) (by omega) (fun j hj => by rw [g2 _ _ (by omega) (by omega)]; exact hW j hj) (fun i h6 h7 => ?_) ⟨v4, fun M3 h3 => ?_⟩
    · have kk2 := knd0 (show knd (bt i) = 0 by rw [hs i h6 h7]; exact k0)
      rw [g2 _ _ (by omega) (by omega), (hB.2 i (by omega)).1]
      refine ⟨?_, kk2⟩
      unfold sb; rw [if_pos (by omega)]
    · refine fin M1 M2 M3 _ h1 h2 h3 ?_
      unfold cdT; rw [if_pos (by exact k0)]
/-- its value -/
theorem sp_val {R : gM → Prop} {k s e n0 : Nat} (hk : k ≤ 400) (he : e ≤ len) (hs : ∀ j, s ≤ j → j < e → knd (bt j) = 1) (k1 : knd (bt s) = 1) : ∀ (d i n : Nat) (v : Int) (M : gM), i + d = e → s ≤ i → d + n0 + 1 ≤ n → Mb M b bt len → 0 ≤ bt s → bt s ≤ 255 → g_mi M b 18 = iZ k → g_mi M (b + 10) k = iZ v → 0 ≤ v → v ≤ 20000000 → (∀ M1 n1, n0 ≤ n1 → (∀ c j, (c ≠ b + 10 ∨ j ≠ k) → (c ≠ b ∨ j ≠ 18) → g_mi M1 c j = g_mi M c j) → g_mi M1 b 18 = iZ ((k + 1 : Nat) : Int) → g_mi M1 (b + 10) k = iZ (vff bt d i v) → qX9_splits N K R n1 0 M1 b (iZ len) (iZ e) 0 0 0) → qX9_splits N K R n 3 M b (iZ len) 0 (iZ (sb (bt s))) (iZ e) (iZ i) := by
  intro d
  induction d with
  | zero =>
    intro i n v M hi hsi hn hB s1 s2 h18 hv v0 v1 h
    obtain ⟨m, rfl⟩ : ∃ m, n = m + 1 := ⟨n - 1, by omega⟩
    have hl := hB.1
    rw [qX9_splits, if_neg (by decide), if_neg (by decide), if_neg (by decide)]
    unfold pX9_splits_169
    have c1 : iZ (e : Int) ≤ iZ (i : Int) := by rw [iZ_le (by omega) (by omega) (by omega) (by omega)]; omega
    refine ⟨fun _ M1 h1 => ?_, fun z => absurd c1 z⟩
    rw [h18, iZ_s1] at h1
    have g : ∀ c j, g_mi M1 c j = if c = b ∧ j = 18 then iZ ((k + 1 : Nat) : Int) else g_mi M c j := fun c j => by rw [h1, mi_wi]
    refine h M1 m (by omega) (fun c j _ q => by rw [g, if_neg (by omega)]) (by rw [g, if_pos ⟨rfl, rfl⟩]) (by rw [g, if_neg (by omega)]; exact hv)
  | succ d ih =>
    intro i n v M hi hsi hn hB s1 s2 h18 hv v0 v1 h
    obtain ⟨m, rfl⟩ : ∃ m, n = m + 1 := ⟨n - 1, by omega⟩
    have hl := hB.1
    obtain ⟨b1, b2, b3⟩ := hB.2 i (by omega)
    have dg1 := knd1 (hs i hsi (by omega))
    have sbi : sb (bt i) = bt i := by unfold sb; rw [if_pos (by omega)]
    rw [sbi] at b1
    have v4 : vp_in (iZ (k : Int)) 401 := iZ_in (by omega) (by omega) (by omega)
    have c1 : ¬ iZ (e : Int) ≤ iZ (i : Int) := by rw [iZ_le (by omega) (by omega) (by omega) (by omega)]; omega
    have c2 : (iZ v ≤ 1000000) = (v ≤ 1000000) := by rw [show (1000000 : Int32) = iZ 1000000 from rfl, iZ_le (by omega) (by omega) (by omega) (by omega)]
    rw [qX9_splits, if_neg (by decide), if_neg (by decide), if_neg (by decide)]
    unfold pX9_splits_169
    rw [h18, iZ_cl (show k < 2147483648 by omega), iZ_cl (show i < 2147483648 by omega), hv, (sm_R s1 s2).2, k1, c2, b1, iZ_l10, iZ_mul, iZ_add, iZ_l48, iZ_sub, iZ_s1, iZ_s1]
    refine ⟨fun z => absurd z c1, fun _ v1 hv1 => ⟨fun z => absurd (hv1.symm.trans z) (by decide), fun _ => ⟨v4, fun c3 => ⟨iZ_in (by omega) (by omega) (by omega), fun M3 h3 => ?_⟩, fun c3 M3 h3 => ?_⟩⟩⟩
    all_goals
      have g : ∀ c j, (c ≠ b + 10 ∨ j ≠ k) → g_mi M3 c j = g_mi M c j := fun c j q => by rw [h3, mi_wi, if_neg (by omega)]
      have gk : g_mi M3 (b + 10) k = iZ (if v ≤ 1000000 then 10 * v + bt i - 48 else v) := by
        first
          | rw [h3, mi_wi, if_pos ⟨rfl, rfl⟩, if_pos c3]
          | rw [h3, mi_wi, if_pos ⟨rfl, rfl⟩, if_neg c3]
      refine ih (i + 1) m _ M3 (by omega) (by omega) (by omega) ⟨hl, fun j hj => by rw [g _ _ (by omega)]; exact hB.2 j hj⟩ s1 s2 (by rw [g _ _ (by omega)]; exact h18) gk (by split <;> omega) (by split <;> omega) (fun M1 n1 q1 q2 q3 q4 => h M1 n1 q1 (fun c j q5 q6 => (q2 c j q5 q6).trans (g c j q5)) q3 (by rw [vff]; exact q4))
/-- a token -/
theorem sp_tok {M : gM} {R : gM → Prop} {k s e n0 n : Nat} (hN : 500 ≤ N) (hB : Mb M b bt len) (hW : Vw M b) (hk : k ≤ 400) (h18 : g_mi M b 18 = iZ k) (hse : s < e) (he : e ≤ len) (hs : ∀ j, s ≤ j → j < e → knd (bt j) = knd (bt s)) (hm : knd (bt s) = 2 → e = s + 1) (hn : e - s + n0 + 1 ≤ n) (h : ∀ M1 n1, n0 ≤ n1 → (∀ c j, ((c ≠ b + 9 ∧ c ≠ b + 10 ∧ c ≠ b + 11) ∨ j ≠ k) → (c ≠ b ∨ j ≠ 18) → g_mi M1 c j = g_mi M c j) → g_mi M1 b 18 = iZ ((k + 1 : Nat) : Int) → g_mi M1 (b + 9) k = iZ (cdT bt (s, e)) → g_mi M1 (b + 10) k = iZ (vlT bt (s, e)) → g_mi M1 (b + 11) k = iZ s → qX9_splits N K R n1 0 M1 b (iZ len) (iZ e) 0 0 0) : spF N K (qX9_splits N K R n) M b (iZ len) (iZ s) (iZ (sb (bt s))) (iZ e) := by
  have hl := hB.1
  obtain ⟨b1, b2, b3⟩ := hB.2 s (by omega)
  refine spF_ok hN hB hW hk h18 hse he hs hm (fun M1 f1 g1 g2 g3 => ?_)
  have h1b : Mb M1 b bt len := ⟨hl, fun j hj => by rw [f1 _ _ (by omega)]; exact hB.2 j hj⟩
  have h118 : g_mi M1 b 18 = iZ k := by rw [f1 _ _ (by omega)]; exact h18
  by_cases k1 : knd (bt s) = 1
  · refine sp_val (n0 := n0) hk he (fun j q1 q2 => by rw [hs j q1 q2]; exact k1) k1 (e - s) s n 0 M1 (by omega) (by omega) (by omega) h1b b2 b3 h118 g2 (by omega) (by omega) (fun M2 n1 q1 q2 q3 q4 => ?_)
    refine h M2 n1 q1 (fun c j q5 q6 => (q2 c j (by omega) q6).trans (f1 c j q5)) q3 ?_ ?_ ?_
    · rw [q2 _ _ (by omega) (by omega)]; exact g1
    · rw [q4]; unfold vlT; rw [if_pos (by exact k1)]
    · rw [q2 _ _ (by omega) (by omega)]; exact g3
  · obtain ⟨m, rfl⟩ : ∃ m, n = m + 1 := ⟨n - 1, by omega⟩
    rw [qX9_splits, if_neg (by decide), if_neg (by decide), if_neg (by decide)]
    unfold pX9_splits_169
    have c1 : ¬ iZ (e : Int) ≤ iZ (s : Int) := by rw [iZ_le (by omega) (by omega) (by omega) (by omega)]; omega
    refine ⟨fun z => absurd z c1, fun _ v1 hv1 => ⟨fun _ M2 h2 => ?_, fun z => ?_⟩⟩
    · rw [h118, iZ_s1] at h2
      have g : ∀ c j, (c ≠ b ∨ j ≠ 18) → g_mi M2 c j = g_mi M1 c j := fun c j q => by rw [h2, mi_wi, if_neg (by omega)]
      refine h M2 m (by omega) (fun c j q5 q6 => (g c j q6).trans (f1 c j q5)) (by rw [h2, mi_wi, if_pos ⟨rfl, rfl⟩]) ?_ ?_ ?_
      · rw [g _ _ (by omega)]; exact g1
      · rw [g _ _ (by omega), g2]; unfold vlT; rw [if_neg (by exact k1)]
      · rw [g _ _ (by omega)]; exact g3
    · rw [hv1, (sm_R b2 b3).2, decide_eq_false k1] at z; exact absurd rfl z
theorem sp_loop {R : gM → Prop} {L : List (Nat × Nat)} (hN : 500 ≤ N) (hT : L.length ≤ 400) : ∀ (f s k n : Nat) (M : gM), len ≤ s + f → s ≤ len → L.drop k = tks bt len f s → k ≤ L.length → 4 * (len - s) + 2 ≤ n → Mb M b bt len → Vw M b → g_mi M b 18 = iZ k → Mca M b bt len k L → (∀ M1, Fzz b M M1 → g_mi M1 b 18 = iZ L.length → Mca M1 b bt len (L.length + 1) L → R M1) → qX9_splits N K R n 0 M b (iZ len) (iZ s) 0 0 0 := by
  -- the end
  have fin : ∀ (s k : Nat) (M : gM), s = len → k = L.length → Mb M b bt len → g_mi M b 18 = iZ k → Mca M b bt len k L → (∀ M1, Fzz b M M1 → g_mi M1 b 18 = iZ L.length → Mca M1 b bt len (L.length + 1) L → R M1) → ((vp_in ((g_mi M b 18)) 401) ∧ ∀ M1 : gM, M1 = (g_wi M (b + 11) ((g_mi M b 18)).toNatClampNeg (iZ len)) → (vp_in ((g_mi M1 b 18)) 401) ∧ ∀ M2 : gM, M2 = (g_wi M1 (b + 9) ((g_mi M1 b 18)).toNatClampNeg 0) → (vp_in ((g_mi M2 b 18)) 401) ∧ ∀ M3 : gM, M3 = (g_wi M2 (b + 10) ((g_mi M2 b 18)).toNatClampNeg 0) → R M3) := by
    intro s k M es ek hB h18 hA hR
    have v4 : vp_in (iZ (k : Int)) 401 := iZ_in (by omega) (by omega) (by omega)
    rw [h18, iZ_cl (show k < 2147483648 by omega)]
    refine ⟨v4, fun M1 h1 => ?_⟩
    have e1 : g_mi M1 b 18 = iZ k := by rw [h1, mi_wi, if_neg (by omega)]; exact h18
    rw [e1, iZ_cl (show k < 2147483648 by omega)]
    refine ⟨v4, fun M2 h2 => ?_⟩
    have e2 : g_mi M2 b 18 = iZ k := by rw [h2, mi_wi, if_neg (by omega)]; exact e1
    rw [e2, iZ_cl (show k < 2147483648 by omega)]
    refine ⟨v4, fun M3 h3 => ?_⟩
    have g : ∀ c j, g_mi M3 c j = if c = b + 10 ∧ j = k then 0 else if c = b + 9 ∧ j = k then 0 else if c = b + 11 ∧ j = k then iZ len else g_mi M c j := fun c j => by rw [h3, mi_wi, h2, mi_wi, h1, mi_wi]
    refine hR M3 (fun c j q1 q2 q3 q4 => by rw [g, if_neg (by omega), if_neg (by omega), if_neg (by omega)]) ?_ (fun i hi => ?_)
    · rw [g, if_neg (by omega), if_neg (by omega), if_neg (by omega), h18, ek]
    · have hno : L[k]? = none := List.getElem?_eq_none (by omega)
      rcases Nat.lt_or_ge i k with z | z
      · rw [g, if_neg (by omega), if_neg (by omega), if_neg (by omega), g, if_neg (by omega), if_neg (by omega), if_neg (by omega), g, if_neg (by omega), if_neg (by omega), if_neg (by omega)]; exact hA i z
      · rw [show i = k by omega, at0_none hno, at0_none hno, at0_none hno, g, if_neg (by omega), if_pos ⟨rfl, rfl⟩, g, if_pos ⟨rfl, rfl⟩, g, if_neg (by omega), if_neg (by omega), if_pos ⟨rfl, rfl⟩]; exact ⟨rfl, rfl, rfl⟩
  intro f
  induction f with
  | zero =>
    intro s k n M hf hs hL hk hn hB hW h18 hA hR
    obtain ⟨m, rfl⟩ : ∃ m, n = m + 1 := ⟨n - 1, by omega⟩
    have el : s = len := by omega
    have ek : k = L.length := by
      have : (L.drop k).length = 0 := by rw [hL]; rfl
      rw [List.length_drop] at this; omega
    have hl4 := hB.1
    rw [qX9_splits, if_pos rfl]
    unfold pX9_splits_7
    have cle : iZ (len : Int) ≤ iZ (s : Int) := by rw [iZ_le (by omega) (by omega) (by omega) (by omega)]; omega
    exact ⟨fun _ => fin s k M el ek hB h18 hA hR, fun z => absurd cle z⟩
  | succ f ih =>
    intro s k n M hf hs hL hk hn hB hW h18 hA hR
    obtain ⟨m, rfl⟩ : ∃ m, n = m + 1 := ⟨n - 1, by omega⟩
    have hl4 := hB.1
    rw [tks] at hL
    rw [qX9_splits, if_pos rfl]
    unfold pX9_splits_7
    have cle : (iZ (len : Int) ≤ iZ (s : Int)) = (len ≤ s) := by rw [iZ_le (by omega) (by omega) (by omega) (by omega)]; exact propext ⟨fun _ => by omega, fun _ => by omega⟩
    refine ⟨fun z => ?_, fun z => ?_⟩
    · rw [cle] at z
      rw [if_pos z] at hL
      have ek : k = L.length := by
        have : (L.drop k).length = 0 := by rw [hL]; rfl
        rw [List.length_drop] at this; omega
      exact fin s k M (by omega) ek hB h18 hA hR
    · rw [cle] at z
      rw [if_neg z] at hL
      have hsl : s < len := by omega
      obtain ⟨b1, b2, b3⟩ := hB.2 s hsl
      have sbq := sbb b2 b3
      obtain ⟨r1, r2⟩ := sm_R b2 b3
      have kb := knd_b (bt s)
      have hn2 := nxt_R (bt := bt) hsl
      have b32 : (iZ (sb (bt s)) = 32) = (bt s = 32) := by
        rw [iZ_l32, iZ_eq (by omega) (by omega) (by omega) (by omega)]
        refine propext ⟨fun q => ?_, fun q => by rw [q]; decide⟩
        unfold sb at q; split at q <;> omega
      -- the token that begins at s
      have tok : bt s ≠ 32 → L[k]? = some (s, nxt bt len s) ∧ k + 1 ≤ L.length ∧ L.drop (k + 1) = tks bt len f (nxt bt len s) := fun c => by
        rw [if_neg c] at hL
        have h1 : L[k]? = some (s, nxt bt len s) := by
          have : (L.drop k)[0]? = some (s, nxt bt len s) := by rw [hL]; rfl
          rw [List.getElem?_drop, Nat.add_zero] at this; exact this
        have h2 : k < L.length := by
          rcases Nat.lt_or_ge k L.length with z | z
          · exact z
          · rw [List.getElem?_eq_none z] at h1; cases h1
        refine ⟨h1, h2, ?_⟩
        have : (L.drop k).drop 1 = tks bt len f (nxt bt len s) := by rw [hL]; rfl
        rw [List.drop_drop] at this; exact this
      have hmm : knd (bt s) = 2 → nxt bt len s = s + 1 := fun c => by unfold nxt; rw [if_pos c]
      -- laid, and on behind it
      have beh : bt s ≠ 32 → ∀ n2 : Nat, nxt bt len s - s + (4 * (len - nxt bt len s) + 2) + 1 ≤ n2 → spF N K (qX9_splits N K R n2) M b (iZ len) (iZ s) (iZ (sb (bt s))) (iZ (nxt bt len s)) := fun c n2 hn3 => by
        obtain ⟨t1, t2, t3⟩ := tok c
        refine sp_tok hN hB hW (by omega) h18 hn2.1 hn2.2.1 hn2.2.2.1 hmm hn3 (fun M1 n1 q1 q2 q3 q4 q5 q6 => ?_)
        have f1 : Fzz b M M1 := fun c j p1 p2 p3 p4 => q2 c j (Or.inl ⟨p1, p2, p3⟩) p4
        refine ih (nxt bt len s) (k + 1) n1 M1 (by omega) hn2.2.1 t3 t2 q1 (hB.fz f1) (hW.fz f1) q3 (fun i hi => ?_) (fun M4 f4 a4 => hR M4 (f1.tr f4) a4)
        rcases Nat.lt_or_ge i k with z | z
        · rw [q2 _ _ (by omega) (by omega), q2 _ _ (by omega) (by omega), q2 _ _ (by omega) (by omega)]; exact hA i z
        · rw [show i = k by omega, q4, q5, q6, at0_some t1, at0_some t1, at0_some t1]; exact ⟨rfl, rfl, rfl⟩
      -- letters
      have let1 : knd (bt s) = 0 → ∀ (d t n2 : Nat), t + d = nxt bt len s → s < t → d + (nxt bt len s - s) + (4 * (len - nxt bt len s) + 2) + 2 ≤ n2 → qX9_splits N K R n2 1 M b (iZ len) (iZ s) (iZ (sb (bt s))) (iZ t) 0 := fun k0 => by
        have c32 : bt s ≠ 32 := fun z => by rw [z] at k0; exact absurd k0 (by decide)
        have nd : ∀ v1 : Int32, v1 = iB (decide (knd (bt s) = 1)) → v1 = 0 := fun v1 hv => by rw [hv, decide_eq_false (by omega)]; rfl
        intro d
        induction d with
        | zero =>
          intro t n2 ht hst hn3
          obtain ⟨m2, rfl⟩ : ∃ m2, n2 = m2 + 1 := ⟨n2 - 1, by omega⟩
          have et : t = nxt bt len s := by omega
          rw [qX9_splits, if_neg (by decide), if_pos rfl]
          unfold pX9_splits_43
          rw [r2, iZ_cl (show t < 2147483648 by omega), et]
          have f9 := beh c32 m2 (by omega)
          unfold spF at f9
          rw [r2] at f9
          refine ⟨fun _ v1 hv1 => ⟨fun _ => f9, fun y => absurd (nd v1 hv1) y⟩, fun w => ?_⟩
          have hlt : nxt bt len s < len := by
            rcases Nat.lt_or_ge (nxt bt len s) len with y | y
            · exact y
            · exfalso; apply w; rw [iZ_le (by omega) (by omega) (by omega) (by omega)]; omega
          obtain ⟨q1, q2, q3⟩ := hB.2 _ hlt
          have kn := hn2.2.2.2 (by omega) hlt
          refine ⟨iZ_in (by omega) (by omega) (by omega), fun v5 hv5 => ⟨fun _ v6 hv6 => ⟨fun _ => f9, fun y => absurd (nd v6 hv6) y⟩, fun y => ?_⟩⟩
          rw [q1, (sm_R q2 q3).1, decide_eq_false (by omega)] at hv5
          exact absurd hv5 y
        | succ d ihd =>
          intro t n2 ht hst hn3
          obtain ⟨m2, rfl⟩ : ∃ m2, n2 = m2 + 1 := ⟨n2 - 1, by omega⟩
          rw [qX9_splits, if_neg (by decide), if_pos rfl]
          unfold pX9_splits_43
          obtain ⟨q1, q2, q3⟩ := hB.2 t (by omega)
          have hk2 := hn2.2.2.1 t (by omega) (by omega)
          refine ⟨fun w => ?_, fun _ => ⟨iZ_in (by omega) (by omega) (by omega), fun v5 hv5 => ⟨fun y => ?_, fun _ => ?_⟩⟩⟩
          · rw [iZ_le (by omega) (by omega) (by omega) (by omega)] at w; omega
          · rw [iZ_cl (show t < 2147483648 by omega), q1, (sm_R q2 q3).1, decide_eq_true (by omega)] at hv5
            rw [hv5] at y; exact absurd y (by decide)
          · rw [iZ_s1]
            exact ihd (t + 1) m2 (by omega) (by omega) (by omega)
      -- digits
      have let2 : knd (bt s) = 1 → ∀ (d t n2 : Nat), t + d = nxt bt len s → s < t → d + (nxt bt len s - s) + (4 * (len - nxt bt len s) + 2) + 2 ≤ n2 → qX9_splits N K R n2 2 M b (iZ len) (iZ s) (iZ (sb (bt s))) (iZ t) 0 := fun k0 => by
        have c32 : bt s ≠ 32 := fun z => by rw [z] at k0; exact absurd k0 (by decide)
        intro d
        induction d with
        | zero =>
          intro t n2 ht hst hn3
          obtain ⟨m2, rfl⟩ : ∃ m2, n2 = m2 + 1 := ⟨n2 - 1, by omega⟩
          have et : t = nxt bt len s := by omega
          rw [qX9_splits, if_neg (by decide), if_neg (by decide), if_pos rfl]
          unfold pX9_splits_75
          rw [iZ_cl (show t < 2147483648 by omega), et]
          have f9 := beh c32 m2 (by omega)
          refine ⟨fun _ => f9, fun w => ?_⟩
          have hlt : nxt bt len s < len := by
            rcases Nat.lt_or_ge (nxt bt len s) len with y | y
            · exact y
            · exfalso; apply w; rw [iZ_le (by omega) (by omega) (by omega) (by omega)]; omega
          obtain ⟨q1, q2, q3⟩ := hB.2 _ hlt
          have kn := hn2.2.2.2 (by omega) hlt
          refine ⟨iZ_in (by omega) (by omega) (by omega), fun v5 hv5 => ⟨fun _ => f9, fun y => ?_⟩⟩
          rw [q1, (sm_R q2 q3).2, decide_eq_false (by omega)] at hv5
          exact absurd hv5 y
        | succ d ihd =>
          intro t n2 ht hst hn3
          obtain ⟨m2, rfl⟩ : ∃ m2, n2 = m2 + 1 := ⟨n2 - 1, by omega⟩
          rw [qX9_splits, if_neg (by decide), if_neg (by decide), if_pos rfl]
          unfold pX9_splits_75
          obtain ⟨q1, q2, q3⟩ := hB.2 t (by omega)
          have hk2 := hn2.2.2.1 t (by omega) (by omega)
          refine ⟨fun w => ?_, fun _ => ⟨iZ_in (by omega) (by omega) (by omega), fun v5 hv5 => ⟨fun y => ?_, fun _ => ?_⟩⟩⟩
          · rw [iZ_le (by omega) (by omega) (by omega) (by omega)] at w; omega
          · rw [iZ_cl (show t < 2147483648 by omega), q1, (sm_R q2 q3).2, decide_eq_true (by omega)] at hv5
            rw [hv5] at y; exact absurd y (by decide)
          · rw [iZ_s1]
            exact ihd (t + 1) m2 (by omega) (by omega) (by omega)
      rw [iZ_cl (show s < 2147483648 by omega), b1, r1, r2, iZ_s1]
      refine ⟨iZ_in (by omega) (by omega) (by omega), fun w v1 hv1 => ⟨fun y v2 hv2 => ⟨fun x => ?_, fun x => ?_⟩, fun y => ?_⟩, fun w => ?_⟩
      · rw [b32] at w
        rw [hv1, iB_0, decide_eq_false_iff_not] at y
        rw [hv2, iB_0, decide_eq_false_iff_not] at x
        have c2 : knd (bt s) = 2 := by omega
        have := beh w m (by omega)
        rw [hmm c2] at this
        unfold spF at this
        rw [r1, r2] at this
        exact this
      · rw [hv2, iB_0] at x
        have k1 : knd (bt s) = 1 := by
          by_cases c : knd (bt s) = 1
          · exact c
          · exact absurd (decide_eq_false c) x
        exact let2 k1 (nxt bt len s - (s + 1)) (s + 1) m (by omega) (by omega) (by omega)
      · rw [hv1, iB_0] at y
        have k0 : knd (bt s) = 0 := by
          by_cases c : knd (bt s) = 0
          · exact c
          · exact absurd (decide_eq_false c) y
        exact let1 k0 (nxt bt len s - (s + 1)) (s + 1) m (by omega) (by omega) (by omega)
      · rw [b32] at w
        rw [if_pos w] at hL
        exact ih (s + 1) k m M (by omega) (by omega) hL hk (by omega) hB hW h18 hA hR
/-- the reference's tape, split -/
theorem ms_ok {M : gM} {R : gM → Prop} (hN : 2000 ≤ N) (hB : Mb M b bt len) (hW : Vw M b) (hR : ∀ M1, Fzz b M M1 → g_mi M1 b 18 = iZ (tks bt len len 0).length → Mca M1 b bt len ((tks bt len len 0).length + 1) (tks bt len len 0) → R M1) : pX9_splits N K M b (iZ len) R := by
  have hl := hB.1
  have h2 := (tks_R (bt := bt) (len := len) len 0).2
  unfold pX9_splits pX9_splits_0
  intro M1 h1
  have f1 : Fzz b M M1 := fun c j p1 p2 p3 p4 => by rw [h1, mi_wi, if_neg (by omega)]
  exact sp_loop (by omega) (by omega) len 0 0 N M1 (by omega) (by omega) rfl (by omega) (by omega) (hB.fz f1) (hW.fz f1) (by rw [h1, mi_wi, if_pos ⟨rfl, rfl⟩]; rfl) (fun i hi => by omega) (fun M2 f2 => hR M2 (f1.tr f2))
end MSP
