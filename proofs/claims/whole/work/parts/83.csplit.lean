/-! The class splits the tape. -/
def kk (k : Nat) : Int := if k = 0 then 22 else if k = 1 then 23 else 25
theorem knd_b (x : Int) : knd x ≤ 2 := by unfold knd; split; decide; split <;> decide
theorem kind_R {x : Int} (h1 : 0 ≤ x) (h2 : x ≤ 255) : fX2_kindOf (iZ x) = iZ (kk (knd x)) := by
  have e1 : (iZ x < 97) = (x < 97) := by rw [iZ_l97, iZ_lt (by omega) (by omega) (by omega) (by omega)]
  have e2 : (iZ x < 48) = (x < 48) := by rw [iZ_l48, iZ_lt (by omega) (by omega) (by omega) (by omega)]
  have e3 : ((57 : Int32) < iZ x) = (57 < x) := by rw [iZ_l57, iZ_lt (by omega) (by omega) (by omega) (by omega)]
  have e4 : ((122 : Int32) < iZ x) = (122 < x) := by rw [iZ_l122, iZ_lt (by omega) (by omega) (by omega) (by omega)]
  have f1 : x < 97 → ¬ (97 ≤ x ∧ x ≤ 122) := fun z => by omega
  have lo : x < 48 → knd x = 2 := fun z => by unfold knd; rw [if_neg (by omega), if_neg (by omega)]
  have mid : 57 < x → (x < 97 ∨ 122 < x) → knd x = 2 := fun z w => by unfold knd; rw [if_neg (by omega), if_neg (by omega)]
  have dg : 48 ≤ x → x ≤ 57 → knd x = 1 := fun z w => by unfold knd; rw [if_neg (by omega), if_pos (by omega)]
  have lt : 97 ≤ x → x ≤ 122 → knd x = 0 := fun z w => by unfold knd; rw [if_pos (by omega)]
  unfold fX2_kindOf
  by_cases c1 : x < 97
  · rw [if_pos (by rw [e1]; exact c1)]
    by_cases c2 : x < 48
    · rw [if_pos (by rw [e2]; exact c2), lo c2]; rfl
    · rw [if_neg (by rw [e2]; exact c2)]
      by_cases c3 : 57 < x
      · rw [if_pos (by rw [e3]; exact c3), mid c3 (by omega)]; rfl
      · rw [if_neg (by rw [e3]; exact c3), dg (by omega) (by omega)]; rfl
  · rw [if_neg (by rw [e1]; exact c1)]
    by_cases c4 : 122 < x
    · rw [if_pos (by rw [e4]; exact c4), if_neg (by rw [e2]; omega), if_pos (by rw [e3]; omega), mid (by omega) (by omega)]; rfl
    · rw [if_neg (by rw [e4]; exact c4), lt (by omega) (by omega)]; rfl
theorem knd0 {x : Int} (h : knd x = 0) : 97 ≤ x ∧ x ≤ 122 := by
  unfold knd at h
  split at h
  · rename_i c; exact c
  · split at h <;> cases h
theorem knd1 {x : Int} (h : knd x = 1) : 48 ≤ x ∧ x ≤ 57 := by
  unfold knd at h
  split at h
  · cases h
  · split at h
    · rename_i c; exact c
    · cases h
/-- the tape as the class has it -/
def Cb (M : gM) (a : Nat) (bt : Nat → Int) (len : Nat) : Prop := len ≤ 400 ∧ g_mi M a 5 = iZ len ∧ ∀ i, i < len → g_mi M (a + 1) i = iZ (bt i) ∧ 0 ≤ bt i ∧ bt i ≤ 255
section CSP
variable {N K a : Nat} {bt : Nat → Int} {len : Nat}
theorem cn_ok {M : gM} {R : Int32 → Prop} {s e : Nat} (hN : 500 ≤ N) (hse : s ≤ e) (he : e ≤ 400) (hb : ∀ i, s ≤ i → i < e → g_mi M (a + 1) i = iZ (bt i) ∧ 48 ≤ bt i ∧ bt i ≤ 57) (hR : R (iZ (nff bt (e - s) s 0))) : pX2_numberBetween N K M a (iZ s) (iZ e) R := by
  have loop : ∀ (d i n : Nat) (v : Int), i + d = e → s ≤ i → d + 1 ≤ n → 0 ≤ v → v ≤ 1001 → nff bt (e - s) s 0 = nff bt d i v → qX2_numberBetween N K R n 0 M a (iZ e) (iZ v) (iZ i) := by
    intro d
    induction d with
    | zero =>
      intro i n v hi hs hn v0 v1 hv
      obtain ⟨k, rfl⟩ : ∃ k, n = k + 1 := ⟨n - 1, by omega⟩
      rw [qX2_numberBetween]
      unfold pX2_numberBetween_5
      have c1 : iZ (e : Int) ≤ iZ (i : Int) := by rw [iZ_le (by omega) (by omega) (by omega) (by omega)]; omega
      refine ⟨fun _ => ?_, fun z => absurd c1 z⟩
      rw [hv] at hR; exact hR
    | succ d ih =>
      intro i n v hi hs hn v0 v1 hv
      obtain ⟨k, rfl⟩ : ∃ k, n = k + 1 := ⟨n - 1, by omega⟩
      obtain ⟨b1, b2, b3⟩ := hb i hs (by omega)
      rw [qX2_numberBetween]
      unfold pX2_numberBetween_5
      have c1 : ¬ iZ (e : Int) ≤ iZ (i : Int) := by rw [iZ_le (by omega) (by omega) (by omega) (by omega)]; omega
      rw [iZ_cl (show i < 2147483648 by omega), b1, iZ_s1, iZ_l10, iZ_mul, iZ_add, iZ_l48, iZ_sub, iZ_l1001, iZ_min (by omega) (by omega) (by omega) (by omega)]
      refine ⟨fun z => absurd z c1, fun _ => ⟨iZ_in (by omega) (by omega) (by omega), ?_⟩⟩
      refine ih (i + 1) k _ (by omega) (by omega) (by omega) ?_ ?_ ?_
      · split <;> omega
      · split <;> omega
      · rw [hv, nff]
  exact loop (e - s) s N 0 (by omega) (by omega) (by omega) (by omega) (by omega) rfl
/-- what stands in the rows below k -/
def Ca (M : gM) (a : Nat) (bt : Nat → Int) (len k : Nat) (L : List (Nat × Nat)) : Prop := ∀ i, i < k → g_mi M (a + 11) i = iZ (at0 (tkT bt) 24 L i) ∧ g_mi M (a + 13) i = iZ (at0 (nbT bt) (-1) L i) ∧ g_mi M (a + 12) i = iZ (at0 (fun x => (x.1 : Int)) len L i)
def Ft (a : Nat) (M M1 : gM) : Prop := ∀ c, c ≠ a + 11 → c ≠ a + 12 → c ≠ a + 13 → g_mi M1 c = g_mi M c
theorem Ft.tr {M M1 M2 : gM} (h : Ft a M M1) (h2 : Ft a M1 M2) : Ft a M M2 := fun c h3 h4 h5 => (h2 c h3 h4 h5).trans (h c h3 h4 h5)
/-- three writes at k -/
theorem wr3 {M M1 M2 M3 : gM} {k : Nat} {x y z : Int32} (h1 : M1 = g_wi M (a + 12) k x) (h2 : M2 = g_wi M1 (a + 13) k y) (h3 : M3 = g_wi M2 (a + 11) k z) : Ft a M M3 ∧ g_mi M3 (a + 12) k = x ∧ g_mi M3 (a + 13) k = y ∧ g_mi M3 (a + 11) k = z ∧ ∀ c j, j ≠ k → g_mi M3 c j = g_mi M c j := by
  have g : ∀ c j, g_mi M3 c j = if c = a + 11 ∧ j = k then z else if c = a + 13 ∧ j = k then y else if c = a + 12 ∧ j = k then x else g_mi M c j := fun c j => by rw [h3, mi_wi, h2, mi_wi, h1, mi_wi]
  refine ⟨fun c q1 q2 q3 => ?_, ?_, ?_, ?_, fun c j hj => ?_⟩
  · funext j; rw [g, if_neg (by omega), if_neg (by omega), if_neg (by omega)]
  · rw [g, if_neg (by omega), if_neg (by omega), if_pos ⟨rfl, rfl⟩]
  · rw [g, if_neg (by omega), if_pos ⟨rfl, rfl⟩]
  · rw [g, if_pos ⟨rfl, rfl⟩]
  · rw [g, if_neg (by omega), if_neg (by omega), if_neg (by omega)]
theorem Cb.ft {M M1 : gM} (h : Cb M a bt len) (f : Ft a M M1) : Cb M1 a bt len := by
  unfold Cb
  rw [f a (by omega) (by omega) (by omega), f (a + 1) (by omega) (by omega) (by omega)]
  exact h
theorem at0_some {α : Type} {f : α → Int} {d : Int} {l : List α} {i : Nat} {x : α} (h : l[i]? = some x) : at0 f d l i = f x := by unfold at0; rw [h]
theorem at0_none {α : Type} {f : α → Int} {d : Int} {l : List α} {i : Nat} (h : l[i]? = none) : at0 f d l i = d := by unfold at0; rw [h]
theorem cs_loop {R : gM → Prop} {L : List (Nat × Nat)} (hN : 500 ≤ N) (hT : L.length ≤ 400) : ∀ (f s k n : Nat) (M : gM), len ≤ s + f → s ≤ len → L.drop k = tks bt len f s → k ≤ L.length → 3 * (len - s) + 3 ≤ n → Cb M a bt len → Ca M a bt len k L → (∀ M1, Ft a M M1 → Ca M1 a bt len (L.length + 1) L → R M1) → qX2_splitIntoTokens N K R n 0 M a (iZ k) (iZ s) 0 0 := by
  intro f
  induction f with
  | zero =>
    intro s k n M hf hs hL hk hn hB hA hR
    obtain ⟨m, rfl⟩ : ∃ m, n = m + 1 := ⟨n - 1, by omega⟩
    have el : s = len := by omega
    subst el
    have ek : k = L.length := by
      have : (L.drop k).length = 0 := by rw [hL]; rfl
      rw [List.length_drop] at this; omega
    rw [qX2_splitIntoTokens, if_pos rfl]
    unfold pX2_splitIntoTokens_4
    rw [hB.2.1]
    have hl4 := hB.1
    refine ⟨fun _ => ?_, fun z => absurd (Int32.le_refl _) z⟩
    rw [iZ_cl (show k < 2147483648 by omega)]
    have v4 : vp_in (iZ (k : Int)) 401 := iZ_in (by omega) (by omega) (by omega)
    refine ⟨v4, fun M1 h1 => ⟨v4, fun M2 h2 => ⟨v4, fun M3 h3 => ?_⟩⟩⟩
    obtain ⟨w1, w2, w3, w4, w5⟩ := wr3 h1 h2 h3
    refine hR M3 w1 (fun i hi => ?_)
    have hno : L[k]? = none := List.getElem?_eq_none (by omega)
    rcases Nat.lt_or_ge i k with z | z
    · rw [w5 _ _ (by omega), w5 _ _ (by omega), w5 _ _ (by omega)]; exact hA i z
    · rw [show i = k by omega, w2, w3, w4, at0_none hno, at0_none hno, at0_none hno]; exact ⟨rfl, rfl, rfl⟩
  | succ f ih =>
    intro s k n M hf hs hL hk hn hB hA hR
    obtain ⟨m, rfl⟩ : ∃ m, n = m + 1 := ⟨n - 1, by omega⟩
    have hl4 := hB.1
    rw [tks] at hL
    rw [qX2_splitIntoTokens, if_pos rfl]
    unfold pX2_splitIntoTokens_4
    have cle : (iZ (len : Int) ≤ iZ (s : Int)) = (len ≤ s) := by rw [iZ_le (by omega) (by omega) (by omega) (by omega)]; exact propext ⟨fun _ => by omega, fun _ => by omega⟩
    rw [hB.2.1, cle, iZ_cl (show k < 2147483648 by omega), iZ_cl (show s < 2147483648 by omega), iZ_s1]
    have v4 : vp_in (iZ (k : Int)) 401 := iZ_in (by omega) (by omega) (by omega)
    refine ⟨fun z => ?_, fun z => ?_⟩
    · rw [if_pos z] at hL
      have ek : k = L.length := by
        have : (L.drop k).length = 0 := by rw [hL]; rfl
        rw [List.length_drop] at this; omega
      refine ⟨v4, fun M1 h1 => ⟨v4, fun M2 h2 => ⟨v4, fun M3 h3 => ?_⟩⟩⟩
      obtain ⟨w1, w2, w3, w4, w5⟩ := wr3 h1 h2 h3
      refine hR M3 w1 (fun i hi => ?_)
      have hno : L[k]? = none := List.getElem?_eq_none (by omega)
      rcases Nat.lt_or_ge i k with z | z
      · rw [w5 _ _ (by omega), w5 _ _ (by omega), w5 _ _ (by omega)]; exact hA i z
      · have e9 : s = len := by omega
        rw [show i = k by omega, w2, w3, w4, at0_none hno, at0_none hno, at0_none hno]; exact ⟨rfl, rfl, rfl⟩
    · rw [if_neg z] at hL
      have hsl : s < len := by omega
      obtain ⟨b1, b2, b3⟩ := hB.2.2 s hsl
      have kb := knd_b (bt s)
      have hn2 := nxt_R (bt := bt) hsl
      refine ⟨iZ_in (by omega) (by omega) (by omega), fun v1 hv1 => ?_⟩
      rw [b1, kind_R b2 b3] at hv1
      subst hv1
      have v400 : vp_in (iZ (s : Int)) 400 := iZ_in (by omega) (by omega) (by omega)
      have b32 : (iZ (bt s) = 32) = (bt s = 32) := by rw [iZ_l32, iZ_eq (by omega) (by omega) (by omega) (by omega)]
      -- the token that begins at s
      have tok : bt s ≠ 32 → L[k]? = some (s, nxt bt len s) ∧ k + 1 ≤ L.length ∧ L.drop (k + 1) = tks bt len f (nxt bt len s) := fun c => by
        rw [if_neg c] at hL
        have h1 : L[k]? = some (s, nxt bt len s) := by
          have : (L.drop k)[0]? = some (s, nxt bt len s) := by rw [hL]; rfl
          rw [List.getElem?_drop, Nat.add_zero] at this; exact this
        have h2 : k < L.length := by
          rcases Nat.lt_or_ge k L.length with z | z
          · exact z
          · rw [List.getElem?_eq_none z] at h1; cases h1
        refine ⟨h1, h2, ?_⟩
        have : (L.drop k).drop 1 = tks bt len f (nxt bt len s) := by rw [hL]; rfl
        rw [List.drop_drop] at this; exact this
      -- behind it
      have beh : bt s ≠ 32 → ∀ (n2 : Nat) (M1 M2 M3 : gM) (x y zz : Int32), M1 = g_wi M (a + 12) k x → M2 = g_wi M1 (a + 13) k y → M3 = g_wi M2 (a + 11) k zz → x = iZ s → y = iZ (nbT bt (s, nxt bt len s)) → zz = iZ (tkT bt (s, nxt bt len s)) → 3 * (len - nxt bt len s) + 3 ≤ n2 → qX2_splitIntoTokens N K R n2 0 M3 a (iZ k + 1) (iZ (nxt bt len s)) 0 0 := fun c n2 M1 M2 M3 x y zz h1 h2 h3 e1 e2 e3 hn3 => by
        obtain ⟨t1, t2, t3⟩ := tok c
        obtain ⟨w1, w2, w3, w4, w5⟩ := wr3 h1 h2 h3
        rw [iZ_s1]
        refine ih (nxt bt len s) (k + 1) n2 M3 (by omega) hn2.2.1 t3 t2 hn3 (hB.ft w1) (fun i hi => ?_) (fun M4 f4 a4 => hR M4 (w1.tr f4) a4)
        rcases Nat.lt_or_ge i k with z | z
        · rw [w5 _ _ (by omega), w5 _ _ (by omega), w5 _ _ (by omega)]; exact hA i z
        · rw [show i = k by omega, w2, w3, w4, at0_some t1, at0_some t1, at0_some t1, e1, e2, e3]; exact ⟨rfl, rfl, rfl⟩
      -- letters and digits: to the end of the row
      have scan : knd (bt s) ≠ 2 → ∀ (d t n2 : Nat), t + d = nxt bt len s → s < t → d + 3 * (len - nxt bt len s) + 4 ≤ n2 → qX2_splitIntoTokens N K R n2 1 M a (iZ k) (iZ s) (iZ t) (iZ (kk (knd (bt s)))) := fun c2 => by
        have c32 : bt s ≠ 32 := fun z => c2 (by rw [z]; decide)
        have k25 : ¬ iZ (kk (knd (bt s))) = 25 := by
          rcases (show knd (bt s) = 0 ∨ knd (bt s) = 1 by omega) with z | z <;> rw [z] <;> decide
        -- its end
        have fin : ∀ n2, 3 * (len - nxt bt len s) + 3 ≤ n2 → (vp_in (iZ (s : Int)) 400) ∧ (((g_mi M (a + 1) s) = 32 → qX2_splitIntoTokens N K R n2 0 M a (iZ k) (iZ (nxt bt len s)) 0 0) ∧ (¬ (g_mi M (a + 1) s) = 32 → (vp_in (iZ (k : Int)) 401) ∧ ∀ M4 : gM, M4 = (g_wi M (a + 12) k (iZ s)) → ((¬ iZ (kk (knd (bt s))) = 23 → (vp_in (iZ (k : Int)) 401) ∧ ∀ M5 : gM, M5 = (g_wi M4 (a + 13) k (-1)) → ((¬ iZ (kk (knd (bt s))) = 22 → (vp_in (iZ (s : Int)) 400) ∧ (vp_in (iZ (k : Int)) 401) ∧ ∀ M6 : gM, M6 = (g_wi M5 (a + 11) k (25 + (g_mi M5 (a + 1) s))) → qX2_splitIntoTokens N K R n2 0 M6 a (iZ k + 1) (iZ (nxt bt len s)) 0 0) ∧ (iZ (kk (knd (bt s))) = 22 → pX2_wordBetween N K M5 a (iZ s) (iZ (nxt bt len s)) (fun v1 => (vp_in (iZ (k : Int)) 401) ∧ ∀ M7 : gM, M7 = (g_wi M5 (a + 11) k v1) → qX2_splitIntoTokens N K R n2 0 M7 a (iZ k + 1) (iZ (nxt bt len s)) 0 0)))) ∧ (iZ (kk (knd (bt s))) = 23 → pX2_numberBetween N K M4 a (iZ s) (iZ (nxt bt len s)) (fun v2 => (vp_in (iZ (k : Int)) 401) ∧ ∀ M8 : gM, M8 = (g_wi M4 (a + 13) k v2) → (vp_in (iZ (k : Int)) 401) ∧ ∀ M9 : gM, M9 = (g_wi M8 (a + 11) k 23) → qX2_splitIntoTokens N K R n2 0 M9 a (iZ k + 1) (iZ (nxt bt len s)) 0 0))))) := fun n2 hn3 => by
          refine ⟨v400, fun w => ?_, fun _ => ⟨v4, fun M4 h4 => ?_⟩⟩
          · rw [b1, b32] at w; exact absurd w c32
          have g4 : g_mi M4 (a + 1) = g_mi M (a + 1) := by rw [h4]; funext j; rw [mi_wi, if_neg (by omega)]
          refine ⟨fun w => ⟨v4, fun M5 h5 => ?_⟩, fun w => ?_⟩
          · have g5 : g_mi M5 (a + 1) = g_mi M (a + 1) := by rw [← g4, h5]; funext j; rw [mi_wi, if_neg (by omega)]
            have k0 : knd (bt s) = 0 := by
              rcases (show knd (bt s) = 0 ∨ knd (bt s) = 1 by omega) with z | z
              · exact z
              · rw [z] at w; exact absurd rfl w
            refine ⟨fun w2 => absurd (by rw [k0]; rfl) w2, fun _ => ?_⟩
            refine cw_ok (bt := bt) (by omega) (by omega) (by omega) (fun i hi => by rw [g5]; exact hB.2.2 i (by omega)) ⟨v4, fun M7 h7 => ?_⟩
            refine beh c32 n2 M4 M5 M7 _ _ _ h4 h5 h7 rfl ?_ ?_ hn3
            · unfold nbT; rw [if_neg (by dsimp only; omega)]; rfl
            · unfold tkT; rw [if_pos k0]
          · have k1 : knd (bt s) = 1 := by
              rcases (show knd (bt s) = 0 ∨ knd (bt s) = 1 by omega) with z | z
              · rw [z] at w; exact absurd w (by decide)
              · exact z
            refine cn_ok (bt := bt) hN (by omega) (by omega) (fun i h6 h7 => ⟨by rw [g4]; exact (hB.2.2 i (by omega)).1, knd1 (by rw [hn2.2.2.1 i h6 h7]; exact k1)⟩) ⟨v4, fun M8 h8 => ⟨v4, fun M9 h9 => ?_⟩⟩
            refine beh c32 n2 M4 M8 M9 _ _ _ h4 h8 h9 rfl ?_ ?_ hn3
            · unfold nbT; rw [if_pos k1]
            · unfold tkT; rw [if_neg (by dsimp only; omega), if_pos k1]; rfl
        intro d
        induction d with
        | zero =>
          intro t n2 ht hst hn3
          obtain ⟨m2, rfl⟩ : ∃ m2, n2 = m2 + 1 := ⟨n2 - 1, by omega⟩
          have et : t = nxt bt len s := by omega
          rw [qX2_splitIntoTokens, if_neg (by decide)]
          unfold pX2_splitIntoTokens_27
          rw [hB.2.1, iZ_cl (show k < 2147483648 by omega), iZ_cl (show s < 2147483648 by omega), iZ_cl (show t < 2147483648 by omega), et]
          have f9 := fin m2 (by omega)
          refine ⟨fun w => absurd w k25, fun _ => ⟨fun _ => f9, fun w => ?_⟩⟩
          have hlt : nxt bt len s < len := by
            rcases Nat.lt_or_ge (nxt bt len s) len with y | y
            · exact y
            · exfalso; apply w; rw [iZ_le (by omega) (by omega) (by omega) (by omega)]; omega
          obtain ⟨q1, q2, q3⟩ := hB.2.2 _ hlt
          refine ⟨iZ_in (by omega) (by omega) (by omega), fun v3 hv3 => ?_⟩
          rw [q1, kind_R q2 q3] at hv3
          refine ⟨fun _ => f9, fun y => ?_⟩
          have kn := hn2.2.2.2 c2 hlt
          have kb2 := knd_b (bt (nxt bt len s))
          exfalso
          rw [hv3] at y
          apply kn
          rcases (show knd (bt s) = 0 ∨ knd (bt s) = 1 by omega) with p1 | p1 <;> rcases (show knd (bt (nxt bt len s)) = 0 ∨ knd (bt (nxt bt len s)) = 1 ∨ knd (bt (nxt bt len s)) = 2 by omega) with p2 | p2 | p2 <;> rw [p1, p2] at y ⊢ <;> exact absurd y (by decide)
        | succ d ihd =>
          intro t n2 ht hst hn3
          obtain ⟨m2, rfl⟩ : ∃ m2, n2 = m2 + 1 := ⟨n2 - 1, by omega⟩
          rw [qX2_splitIntoTokens, if_neg (by decide)]
          unfold pX2_splitIntoTokens_27
          rw [hB.2.1, iZ_cl (show k < 2147483648 by omega), iZ_cl (show s < 2147483648 by omega), iZ_cl (show t < 2147483648 by omega)]
          obtain ⟨q1, q2, q3⟩ := hB.2.2 t (by omega)
          have hk2 := hn2.2.2.1 t (by omega) (by omega)
          refine ⟨fun w => absurd w k25, fun _ => ⟨fun w => ?_, fun _ => ⟨iZ_in (by omega) (by omega) (by omega), fun v3 hv3 => ?_⟩⟩⟩
          · rw [iZ_le (by omega) (by omega) (by omega) (by omega)] at w; omega
          · rw [q1, kind_R q2 q3, hk2] at hv3
            refine ⟨fun y => absurd hv3 y, fun _ => ?_⟩
            rw [iZ_s1]
            exact ihd (t + 1) m2 (by omega) (by omega) (by omega)
      by_cases c2 : knd (bt s) = 2
      · -- a mark, or a blank
        have en : nxt bt len s = s + 1 := by unfold nxt; rw [if_pos c2]
        obtain ⟨m2, rfl⟩ : ∃ m2, m = m2 + 1 := ⟨m - 1, by omega⟩
        rw [qX2_splitIntoTokens, if_neg (by decide)]
        unfold pX2_splitIntoTokens_27
        rw [c2, iZ_cl (show k < 2147483648 by omega), iZ_cl (show s < 2147483648 by omega), b1, b32]
        refine ⟨fun _ => ⟨v400, fun w => ?_, fun w => ⟨v4, fun M1 h1 => ⟨v4, fun M2 h2 => ⟨v400, v4, fun M3 h3 => ?_⟩⟩⟩⟩, fun w => absurd rfl w⟩
        · rw [if_pos w] at hL
          exact ih (s + 1) k m2 M (by omega) (by omega) hL hk (by omega) hB hA hR
        · have g2 : g_mi M2 (a + 1) s = iZ (bt s) := by rw [h2, mi_wi, if_neg (by omega), h1, mi_wi, if_neg (by omega)]; exact b1
          rw [g2, iZ_l25, iZ_add] at h3
          have := beh w m2 M1 M2 M3 _ _ _ h1 h2 h3 rfl (by unfold nbT; rw [if_neg (by dsimp only; omega)]; rfl) (by unfold tkT; rw [if_neg (by dsimp only; omega), if_neg (by dsimp only; omega)]) (by omega)
          rw [en] at this
          exact this
      · exact scan c2 (nxt bt len s - (s + 1)) (s + 1) m (by omega) (by omega) (by omega)
/-- the class's tape, split -/
theorem cs_ok {M : gM} {R : gM → Prop} (hN : 2000 ≤ N) (hB : Cb M a bt len) (hR : ∀ M1, Ft a M M1 → Ca M1 a bt len ((tks bt len len 0).length + 1) (tks bt len len 0) → R M1) : pX2_splitIntoTokens N K M a R := by
  have hl := hB.1
  have h2 := (tks_R (bt := bt) (len := len) len 0).2
  exact cs_loop (by omega) (by omega) len 0 0 N M (by omega) (by omega) rfl (by omega) (by omega) hB (fun i hi => by omega) hR
end CSP
