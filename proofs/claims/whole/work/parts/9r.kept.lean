/-! The reference lays aside, keeps, takes back. -/
def mixR (e r : Nat → Int) : Nat → Int := fun i => if i < 188 then e i else r i
theorem mix_lo {e r : Nat → Int} {i : Nat} (h : i < 188) : mixR e r i = e i := if_pos h
theorem mix_hi {e r : Nat → Int} {i : Nat} (h : 188 ≤ i) : mixR e r i = r i := if_neg (by omega)
def RLh (M : gM) (b : Nat) (H : List ((Nat → Int) × Int)) : Prop := H.length ≤ 16 ∧ g_mi M b 38 = iZ H.length ∧ ∀ (j : Nat) e, H[j]? = some e → (∀ i, i < 188 → g_mi M (b + 19) (189 * j + i) = iZ (e.1 i)) ∧ g_mi M (b + 19) (189 * j + 188) = iZ e.2
theorem RLh.keep {M M1 : gM} {b : Nat} {H : List ((Nat → Int) × Int)} (h : RLh M b H) (k1 : g_mi M1 b 38 = g_mi M b 38) (k2 : g_mi M1 (b + 19) = g_mi M (b + 19)) : RLh M1 b H := by
  unfold RLh at h ⊢
  rw [k1, k2]
  exact h
section AS9
variable {N K b : Nat} {r : Nat → Int} {k : Nat}
theorem as_9 {M : gM} {R : gM → Prop} (hN : 500 ≤ N) (hk : k ≤ 2) (hR : Rr M b r) (hE : ∀ M1, (∀ c j, (c ≠ b + 5 ∨ j < 188 * k ∨ 188 * k + 188 ≤ j) → g_mi M1 c j = g_mi M c j) → (∀ i, i < 188 → g_mi M1 (b + 5) (188 * k + i) = iZ (r i)) → R M1) : pX9_laysAside N K M b (iZ k) R := by
  have loop : ∀ (e u n : Nat) (M1 : gM), u + e = 188 → e + 1 ≤ n → (∀ c j, (c ≠ b + 5 ∨ j < 188 * k ∨ 188 * k + 188 ≤ j) → g_mi M1 c j = g_mi M c j) → (∀ i, i < u → g_mi M1 (b + 5) (188 * k + i) = iZ (r i)) → qX9_laysAside N K R n 0 M1 b (iZ k) (iZ u) := by
    intro e
    induction e with
    | zero =>
      intro u n M1 hu hn f a
      obtain ⟨n2, rfl⟩ : ∃ n2, n = n2 + 1 := ⟨n - 1, by omega⟩
      rw [qX9_laysAside]
      unfold pX9_laysAside_2
      have c1 : (188 : Int32) ≤ iZ (u : Int) := by rw [iZ_l188, iZ_le (by omega) (by omega) (by omega) (by omega)]; omega
      exact ⟨fun _ => hE M1 f (fun i hi => a i (by omega)), fun z => absurd c1 z⟩
    | succ e ih =>
      intro u n M1 hu hn f a
      obtain ⟨n2, rfl⟩ : ∃ n2, n = n2 + 1 := ⟨n - 1, by omega⟩
      rw [qX9_laysAside]
      unfold pX9_laysAside_2
      have c1 : ¬ (188 : Int32) ≤ iZ (u : Int) := by rw [iZ_l188, iZ_le (by omega) (by omega) (by omega) (by omega)]; omega
      have ex : (188 : Int32) * iZ (k : Int) + iZ (u : Int) = iZ ((188 * k + u : Nat) : Int) := by rw [iZ_l188, iZ_mul, iZ_add]; congr 1
      rw [ex, iZ_cl (show u < 2147483648 by omega), iZ_cl (show 188 * k + u < 2147483648 by omega), f _ _ (by omega), hR u (by omega), iZ_s1]
      refine ⟨fun z => absurd z c1, fun _ => ⟨iZ_in (by omega) (by omega) (by omega), iZ_in (by omega) (by omega) (by omega), fun M2 h2 => ?_⟩⟩
      refine ih (u + 1) n2 M2 (by omega) (by omega) (fun c j q => by rw [h2, mi_wi, if_neg (by omega)]; exact f c j q) (fun i hi => ?_)
      rw [h2, mi_wi]
      by_cases c : i = u
      · rw [if_pos ⟨rfl, by omega⟩, c]
      · rw [if_neg (by omega)]; exact a i (by omega)
  unfold pX9_laysAside pX9_laysAside_0
  exact loop 188 0 N M (by omega) (by omega) (fun _ _ _ => rfl) (fun i hi => by omega)
theorem mix_step {M M2 : gM} {e r : Nat → Int} {u : Nat} (a : ∀ i, i < 5812 → g_mi M (b + 2) i = iZ (if i < u then e i else r i)) (h2 : M2 = g_wi M (b + 2) u (iZ (e u))) : ∀ i, i < 5812 → g_mi M2 (b + 2) i = iZ (if i < u + 1 then e i else r i) := fun i hi => by
  rw [h2, mi_wi]
  by_cases c : i = u
  · rw [if_pos ⟨rfl, c⟩, if_pos (by omega), c]
  · rw [if_neg (by omega), a i hi]
    by_cases c2 : i < u
    · rw [if_pos c2, if_pos (by omega)]
    · rw [if_neg c2, if_neg (by omega)]
theorem tb_k9 {M : gM} {R : gM → Prop} {e : Nat → Int} (hN : 500 ≤ N) (hk : k ≤ 2) (hR : Rr M b r) (ha : ∀ i, i < 188 → g_mi M (b + 5) (188 * k + i) = iZ (e i)) (hE : ∀ M1, (∀ c j, c ≠ b + 2 → g_mi M1 c j = g_mi M c j) → Rr M1 b (mixR e r) → R M1) : pX9_takesBack N K M b (iZ k) R := by
  have loop : ∀ (x u n : Nat) (M1 : gM), u + x = 188 → x + 1 ≤ n → (∀ c j, c ≠ b + 2 → g_mi M1 c j = g_mi M c j) → (∀ i, i < 5812 → g_mi M1 (b + 2) i = iZ (if i < u then e i else r i)) → qX9_takesBack N K R n 0 M1 b (iZ k) (iZ u) := by
    intro x
    induction x with
    | zero =>
      intro u n M1 hu hn f a
      obtain ⟨n2, rfl⟩ : ∃ n2, n = n2 + 1 := ⟨n - 1, by omega⟩
      rw [qX9_takesBack]
      unfold pX9_takesBack_2
      have c1 : (188 : Int32) ≤ iZ (u : Int) := by rw [iZ_l188, iZ_le (by omega) (by omega) (by omega) (by omega)]; omega
      refine ⟨fun _ => hE M1 f (fun i hi => ?_), fun z => absurd c1 z⟩
      rw [a i hi, show u = 188 by omega]
      rfl
    | succ x ih =>
      intro u n M1 hu hn f a
      obtain ⟨n2, rfl⟩ : ∃ n2, n = n2 + 1 := ⟨n - 1, by omega⟩
      rw [qX9_takesBack]
      unfold pX9_takesBack_2
      have c1 : ¬ (188 : Int32) ≤ iZ (u : Int) := by rw [iZ_l188, iZ_le (by omega) (by omega) (by omega) (by omega)]; omega
      have ex : (188 : Int32) * iZ (k : Int) + iZ (u : Int) = iZ ((188 * k + u : Nat) : Int) := by rw [iZ_l188, iZ_mul, iZ_add]; congr 1
      rw [ex, iZ_cl (show u < 2147483648 by omega), iZ_cl (show 188 * k + u < 2147483648 by omega), f _ _ (by omega), ha u (by omega), iZ_s1]
      refine ⟨fun z => absurd z c1, fun _ => ⟨iZ_in (by omega) (by omega) (by omega), iZ_in (by omega) (by omega) (by omega), fun M2 h2 => ?_⟩⟩
      exact ih (u + 1) n2 M2 (by omega) (by omega) (fun c j q => by rw [h2, mi_wi, if_neg (by omega)]; exact f c j q) (mix_step a h2)
  unfold pX9_takesBack pX9_takesBack_0
  exact loop 188 0 N M (by omega) (by omega) (fun _ _ _ => rfl) (fun i hi => by rw [if_neg (by omega)]; exact hR i hi)
/-- what was laid aside ahead is kept -/
theorem ko_1 {M0 : gM} {R : Int32 → gM → Prop} {H : List ((Nat → Int) × Int)} {e : Nat → Int} {kind v : Int} (hl : H.length ≤ 15) (hH : ∀ (j : Nat) x, H[j]? = some x → (∀ i, i < 188 → g_mi M0 (b + 19) (189 * j + i) = iZ (x.1 i)) ∧ g_mi M0 (b + 19) (189 * j + 188) = iZ x.2) (h38 : g_mi M0 b 38 = iZ H.length) (ha : ∀ i, i < 188 → g_mi M0 (b + 5) (376 + i) = iZ (e i)) (hE : ∀ M1, (∀ c j, c ≠ b + 19 → (c ≠ b ∨ j ≠ 38) → g_mi M1 c j = g_mi M0 c j) → RLh M1 b (H ++ [(e, kind)]) → R (iZ v) M1) : ∀ (x u n : Nat) (M : gM), u + x = 188 → x + 1 ≤ n → (∀ c j, (c ≠ b + 19 ∨ j < 189 * H.length) → g_mi M c j = g_mi M0 c j) → (∀ i, i < u → g_mi M (b + 19) (189 * H.length + i) = iZ (e i)) → qX9_keptOr N K R n 1 M b (iZ kind) (iZ v) 189 (iZ u) := by
  intro x
  induction x with
  | zero =>
    intro u n M hu hn f a
    obtain ⟨n2, rfl⟩ : ∃ n2, n = n2 + 1 := ⟨n - 1, by omega⟩
    rw [qX9_keptOr, if_neg (by decide)]
    unfold pX9_keptOr_66
    have c1 : (188 : Int32) ≤ iZ (u : Int) := by rw [iZ_l188, iZ_le (by omega) (by omega) (by omega) (by omega)]; omega
    have ex : (189 : Int32) * iZ (H.length : Int) + 188 = iZ ((189 * H.length + 188 : Nat) : Int) := by rw [show (189 : Int32) = iZ 189 from rfl, iZ_l188, iZ_mul, iZ_add]; congr 1
    rw [f b 38 (by omega), h38, ex, iZ_cl (show 189 * H.length + 188 < 2147483648 by omega)]
    refine ⟨fun _ => ⟨iZ_in (by omega) (by omega) (by omega), fun M1 h1 M2 h2 => ?_⟩, fun z => absurd c1 z⟩
    obtain ⟨b1, b2, b3⟩ := wi_k h1
    rw [b1 b (by omega), f b 38 (by omega), h38, iZ_s1] at h2
    obtain ⟨d1, d2, d3⟩ := wi_k h2
    refine hE M2 (fun c j q1 q2 => ?_) ⟨by simp; omega, by rw [d3]; simp, fun j y hj => ?_⟩
    · by_cases q : c = b
      · subst q; rw [d2 j (by omega), b1 _ (by omega), f _ _ (by omega)]
      · rw [d1 c q, b1 c q1, f c j (by omega)]
    · rw [d1 (b + 19) (by omega)]
      rcases Nat.lt_or_ge j H.length with z | z
      · rw [List.getElem?_append_left z] at hj
        obtain ⟨y1, y2⟩ := hH j y hj
        exact ⟨fun i hi => by rw [b2 _ (by omega), f _ _ (by omega)]; exact y1 i hi, by rw [b2 _ (by omega), f _ _ (by omega)]; exact y2⟩
      · rw [List.getElem?_append_right z] at hj
        have jl : j = H.length := by
          rcases Nat.lt_or_ge 0 (j - H.length) with w | w
          · rw [List.getElem?_eq_none (by simp; omega)] at hj; cases hj
          · omega
        subst jl
        rw [Nat.sub_self] at hj
        cases hj
        exact ⟨fun i hi => by rw [b2 _ (by omega)]; exact a i (by omega), b3⟩
  | succ x ih =>
    intro u n M hu hn f a
    obtain ⟨n2, rfl⟩ : ∃ n2, n = n2 + 1 := ⟨n - 1, by omega⟩
    rw [qX9_keptOr, if_neg (by decide)]
    unfold pX9_keptOr_66
    have c1 : ¬ (188 : Int32) ≤ iZ (u : Int) := by rw [iZ_l188, iZ_le (by omega) (by omega) (by omega) (by omega)]; omega
    have ex : (189 : Int32) * iZ (H.length : Int) + iZ (u : Int) = iZ ((189 * H.length + u : Nat) : Int) := by rw [show (189 : Int32) = iZ 189 from rfl, iZ_mul, iZ_add]; congr 1
    have ey : (376 : Int32) + iZ (u : Int) = iZ ((376 + u : Nat) : Int) := by rw [show (376 : Int32) = iZ 376 from rfl, iZ_add]; congr 1
    rw [f b 38 (by omega), h38, ex, ey, iZ_cl (show 189 * H.length + u < 2147483648 by omega), iZ_cl (show 376 + u < 2147483648 by omega), f (b + 5) _ (by omega), ha u (by omega), iZ_s1]
    refine ⟨fun z => absurd z c1, fun _ => ⟨iZ_in (by omega) (by omega) (by omega), iZ_in (by omega) (by omega) (by omega), fun M2 h2 => ?_⟩⟩
    refine ih (u + 1) n2 M2 (by omega) (by omega) (fun c j q => by rw [h2, mi_wi, if_neg (by omega)]; exact f c j q) (fun i hi => ?_)
    rw [h2, mi_wi]
    by_cases c : i = u
    · rw [if_pos ⟨rfl, by omega⟩, c]
    · rw [if_neg (by omega)]; exact a i (by omega)
theorem ko_9 {M : gM} {R : Int32 → gM → Prop} {H : List ((Nat → Int) × Int)} {e : Nat → Int} {kind v : Int} (hN : 4000 ≤ N) (hH : RLh M b H) (ha : ∀ i, i < 188 → g_mi M (b + 5) (376 + i) = iZ (e i)) (v1 : -2147483648 ≤ v) (v2 : v < 2147483648) (hE : ∀ M1, (∀ c j, c ≠ b + 19 → (c ≠ b ∨ j ≠ 38) → g_mi M1 c j = g_mi M c j) → RLh M1 b (if 0 ≤ v then pshH H (e, kind) else H) → R (iZ v) M1) : pX9_keptOr N K M b (iZ kind) (iZ v) R := by
  obtain ⟨e1, e2, e3⟩ := hH
  unfold pX9_keptOr pX9_keptOr_0
  have c1 : (0 ≤ iZ v) = (0 ≤ v) := by rw [iZ_l0, iZ_le (by omega) (by omega) (by omega) (by omega)]
  have c2 : (iZ (H.length : Int) = 16) = (H.length = 16) := by rw [iZ_l16, iZ_eq (by omega) (by omega) (by omega) (by omega)]; exact propext ⟨fun _ => by omega, fun _ => by omega⟩
  rw [e2, c1, c2]
  refine ⟨fun z => ⟨fun z2 => ?_, fun z2 => ?_⟩, fun z => ?_⟩
  · rw [if_pos z] at hE
    unfold pshH at hE
    rw [if_pos (by omega)] at hE
    exact ko_1 (by omega) e3 e2 ha hE 188 0 N M (by omega) (by omega) (fun _ _ _ => rfl) (fun i hi => by omega)
  · rw [if_pos z] at hE
    unfold pshH at hE
    rw [if_neg (by omega)] at hE
    have loop : ∀ (x u n : Nat) (M1 : gM), u + x = 2835 → x + 200 ≤ n → (∀ c j, c ≠ b + 19 → g_mi M1 c j = g_mi M c j) → (∀ j, g_mi M1 (b + 19) j = if j < u then g_mi M (b + 19) (j + 189) else g_mi M (b + 19) j) → qX9_keptOr N K R n 0 M1 b (iZ kind) (iZ v) 189 (iZ u) := by
      intro x
      induction x with
      | zero =>
        intro u n M1 hu hn f a
        obtain ⟨n2, rfl⟩ : ∃ n2, n = n2 + 1 := ⟨n - 1, by omega⟩
        rw [qX9_keptOr, if_pos rfl]
        unfold pX9_keptOr_22
        have q1 : (15 : Int32) * 189 ≤ iZ (u : Int) := by rw [iZ_l15, show (189 : Int32) = iZ 189 from rfl, iZ_mul, iZ_le (by omega) (by omega) (by omega) (by omega)]; omega
        refine ⟨fun _ M2 h2 => ?_, fun w => absurd q1 w⟩
        rw [f b 38 (by omega), e2, iZ_m1 (by omega)] at h2
        obtain ⟨b1, b2, b3⟩ := wi_k h2
        have dl : (H.drop 1).length = 15 := by rw [List.length_drop]; omega
        refine ko_1 (M0 := M2) (H := H.drop 1) (by omega) (fun j y hj => ?_) (by rw [b3, dl, z2]) (fun i hi => by rw [b1 _ (by omega), f _ _ (by omega)]; exact ha i hi) (fun M3 f3 => hE M3 (fun c j q1 q2 => ?_)) 188 0 n2 M2 (by omega) (by omega) (fun _ _ _ => rfl) (fun i hi => by omega)
        · have hj15 : j < 15 := by rw [← dl]; exact (List.getElem?_eq_some_iff.mp hj).1
          rw [List.getElem?_drop] at hj
          obtain ⟨y1, y2⟩ := e3 (1 + j) y hj
          rw [b1 (b + 19) (by omega)]
          refine ⟨fun i hi => ?_, ?_⟩
          · rw [a, if_pos (by omega), show 189 * j + i + 189 = 189 * (1 + j) + i by omega]; exact y1 i hi
          · rw [a, if_pos (by omega), show 189 * j + 188 + 189 = 189 * (1 + j) + 188 by omega]; exact y2
        · rw [f3 c j q1 q2]
          by_cases q : c = b
          · subst q; rw [b2 j (by omega), f _ _ (by omega)]
          · rw [b1 c q, f c j q1]
      | succ x ih =>
        intro u n M1 hu hn f a
        obtain ⟨n2, rfl⟩ : ∃ n2, n = n2 + 1 := ⟨n - 1, by omega⟩
        rw [qX9_keptOr, if_pos rfl]
        unfold pX9_keptOr_22
        have q1 : ¬ (15 : Int32) * 189 ≤ iZ (u : Int) := by rw [iZ_l15, show (189 : Int32) = iZ 189 from rfl, iZ_mul, iZ_le (by omega) (by omega) (by omega) (by omega)]; omega
        have ex : iZ (u : Int) + (189 : Int32) = iZ ((u + 189 : Nat) : Int) := by rw [show (189 : Int32) = iZ 189 from rfl, iZ_add]; congr 1
        rw [ex, iZ_cl (show u < 2147483648 by omega), iZ_cl (show u + 189 < 2147483648 by omega), a (u + 189), if_neg (by omega), iZ_s1]
        refine ⟨fun w => absurd w q1, fun _ => ⟨iZ_in (by omega) (by omega) (by omega), iZ_in (by omega) (by omega) (by omega), fun M2 h2 => ?_⟩⟩
        refine ih (u + 1) n2 M2 (by omega) (by omega) (fun c j q => by rw [h2, mi_wi, if_neg (by omega)]; exact f c j q) (fun j => ?_)
        rw [h2, mi_wi]
        by_cases c : j = u
        · rw [if_pos ⟨rfl, c⟩, if_pos (by omega), c]
        · rw [if_neg (by omega), a j]
          by_cases c3 : j < u
          · rw [if_pos c3, if_pos (by omega)]
          · rw [if_neg c3, if_neg (by omega)]
    exact loop 2835 0 N M (by omega) (by omega) (fun _ _ _ => rfl) (fun j => by rw [if_neg (by omega)])
  · rw [if_neg z] at hE
    exact hE M (fun _ _ _ _ => rfl) ⟨e1, e2, e3⟩
theorem un_9 {M : gM} {R : Int32 → gM → Prop} {H : List ((Nat → Int) × Int)} {f : Nat → Int32} (hN : 500 ≤ N) (hR : Rr M b r) (hH : RLh M b H) (hf : Rfm M b f) (h0 : H.length = 0 → ∀ M1, (∀ c j, (c ≠ b ∨ j ≠ 0) → c ≠ b + 1 → g_mi M1 c j = g_mi M c j) → g_mi M1 b 0 = iZ (-3) → Rfm M1 b (refU f (-3)) → R (iZ (-3)) M1) (hE : ∀ M1 e, H[H.length - 1]? = some e → (∀ c j, c ≠ b + 2 → (c ≠ b ∨ (j ≠ 0 ∧ j ≠ 38)) → g_mi M1 c j = g_mi M c j) → g_mi M1 b 0 = 0 → Rr M1 b (mixR e.1 r) → RLh M1 b (H.take (H.length - 1)) → R (iZ e.2) M1) : pX9_undo N K M b R := by
  obtain ⟨e1, e2, e3⟩ := hH
  unfold pX9_undo pX9_undo_0
  have c1 : (iZ (H.length : Int) = 0) = (H.length = 0) := by rw [iZ_l0, iZ_eq (by omega) (by omega) (by omega) (by omega)]; exact propext ⟨fun _ => by omega, fun _ => by omega⟩
  rw [e2, c1]
  refine ⟨fun z M1 h1 => ?_, fun z => ?_⟩
  · have hl : H.length - 1 < H.length := by omega
    have hx := List.getElem?_eq_getElem hl
    obtain ⟨x1, x2⟩ := e3 _ _ hx
    generalize H[H.length - 1] = e at *
    rw [iZ_m1 (by omega)] at h1
    obtain ⟨b1, b2, b3⟩ := wi_k h1
    rw [b3, show (189 : Int32) * iZ ((H.length - 1 : Nat) : Int) = iZ ((189 * (H.length - 1) : Nat) : Int) by rw [show (189 : Int32) = iZ 189 from rfl, iZ_mul]; congr 1]
    have loop : ∀ (x u n : Nat) (M2 : gM), u + x = 188 → x + 1 ≤ n → (∀ c j, c ≠ b + 2 → g_mi M2 c j = g_mi M1 c j) → (∀ i, i < 5812 → g_mi M2 (b + 2) i = iZ (if i < u then e.1 i else r i)) → qX9_undo N K R n 0 M2 b (iZ ((189 * (H.length - 1) : Nat) : Int)) (iZ u) := by
      intro x
      induction x with
      | zero =>
        intro u n M2 hu hn g a
        obtain ⟨n2, rfl⟩ : ∃ n2, n = n2 + 1 := ⟨n - 1, by omega⟩
        rw [qX9_undo]
        unfold pX9_undo_35
        have q1 : (188 : Int32) ≤ iZ (u : Int) := by rw [iZ_l188, iZ_le (by omega) (by omega) (by omega) (by omega)]; omega
        have ex : iZ ((189 * (H.length - 1) : Nat) : Int) + (188 : Int32) = iZ ((189 * (H.length - 1) + 188 : Nat) : Int) := by rw [iZ_l188, iZ_add]; congr 1
        rw [ex, iZ_cl (show 189 * (H.length - 1) + 188 < 2147483648 by omega), g (b + 19) _ (by omega), b1 (b + 19) (by omega), x2]
        refine ⟨fun _ => ⟨iZ_in (by omega) (by omega) (by omega), ?_⟩, fun w => absurd q1 w⟩
        unfold pX9_good0
        intro M3 h3
        obtain ⟨d1, d2, d3⟩ := wi_k h3
        have lt3 : (H.take (H.length - 1)).length = H.length - 1 := by rw [List.length_take]; omega
        refine hE M3 e hx (fun c j q1 q2 => ?_) d3 (fun i hi => ?_) ⟨by omega, ?_, fun j y hj => ?_⟩
        · by_cases q : c = b
          · subst q; rw [d2 j (by omega), g _ _ (by omega), b2 j (by omega)]
          · rw [d1 c q, g c j q1, b1 c q]
        · rw [d1 _ (by omega), a i hi, show u = 188 by omega]; rfl
        · rw [d2 38 (by omega), g _ _ (by omega), b3, lt3]
        · rw [List.getElem?_take] at hj
          split at hj
          · obtain ⟨y1, y2⟩ := e3 j y hj
            exact ⟨fun i hi => by rw [d1 _ (by omega), g _ _ (by omega), b1 _ (by omega)]; exact y1 i hi, by rw [d1 _ (by omega), g _ _ (by omega), b1 _ (by omega)]; exact y2⟩
          · cases hj
      | succ x ih =>
        intro u n M2 hu hn g a
        obtain ⟨n2, rfl⟩ : ∃ n2, n = n2 + 1 := ⟨n - 1, by omega⟩
        rw [qX9_undo]
        unfold pX9_undo_35
        have q1 : ¬ (188 : Int32) ≤ iZ (u : Int) := by rw [iZ_l188, iZ_le (by omega) (by omega) (by omega) (by omega)]; omega
        have ex : iZ ((189 * (H.length - 1) : Nat) : Int) + iZ (u : Int) = iZ ((189 * (H.length - 1) + u : Nat) : Int) := by rw [iZ_add]; congr 1
        rw [ex, iZ_cl (show 189 * (H.length - 1) + u < 2147483648 by omega), iZ_cl (show u < 2147483648 by omega), g (b + 19) (189 * (H.length - 1) + u) (by omega), b1 (b + 19) (by omega), x1 u (by omega), iZ_s1]
        refine ⟨fun w => absurd w q1, fun _ => ⟨iZ_in (by omega) (by omega) (by omega), iZ_in (by omega) (by omega) (by omega), fun M3 h3 => ?_⟩⟩
        exact ih (u + 1) n2 M3 (by omega) (by omega) (fun c j q => by rw [h3, mi_wi, if_neg (by omega)]; exact g c j q) (mix_step a h3)
    exact loop 188 0 N M1 (by omega) (by omega) (fun _ _ _ => rfl) (fun i hi => by rw [if_neg (by omega), b1 _ (by omega)]; exact hR i hi)
  · rw [iZ_m3]
    exact rf_9 (Or.inr (Or.inr (Or.inl rfl))) hf (fun M1 f1 s1 r1 => h0 z M1 f1 s1 r1)
end AS9
