/-! Copies of States, the class's ring of them, the reference's row of them. -/
theorem RS.cg {M : gM} {st : Nat} {r r2 : Nat → Int} (hV : Vk r) (hT : Vt r) (h : RS M st r) (e : ∀ i, i < 188 → r2 i = r i) (e1 : r2 200 = r 200) (e2 : r2 201 = r 201) : RS M st r2 := by
  obtain ⟨⟨a1, a2, a3, a4, a5⟩, b1, b2, b3⟩ := h
  refine ⟨⟨by rw [e 0 (by omega)]; exact a1, fun i hi => ?_, by rw [e 31 (by omega)]; exact a3, by rw [e 32 (by omega)]; exact a4, by rw [e 187 (by omega)]; exact a5⟩, by rw [e1]; exact b1, by rw [e2]; exact b2, b3.cg hT (fun i _ h2 => e i (by omega))⟩
  have := hV.2.1
  rw [e 0 (by omega)] at hi
  rw [e (1 + i) (by omega)]
  exact a2 i hi
theorem cp_k {M M1 : gM} {a b n : Nat} (h : M1 = g_cp M a b 0 0 n) : (∀ c, c ≠ b → g_mi M1 c = g_mi M c) ∧ ∀ j, j < n → g_mi M1 b j = g_mi M a j := by
  subst h
  refine ⟨fun c hc => ?_, fun j hj => ?_⟩
  · funext j
    rw [mi_cp, if_neg hc]
  · rw [mi_cp, if_pos rfl, if_pos (by omega), Nat.zero_add, Nat.sub_zero]
theorem wi_k {M M1 : gM} {a i : Nat} {x : Int32} (h : M1 = g_wi M a i x) : (∀ c, c ≠ a → g_mi M1 c = g_mi M c) ∧ (∀ j, j ≠ i → g_mi M1 a j = g_mi M a j) ∧ g_mi M1 a i = x := by
  subst h
  refine ⟨fun c hc => ?_, fun j hj => ?_, ?_⟩
  · funext j
    rw [mi_wi, if_neg (by omega)]
  · rw [mi_wi, if_neg (by omega)]
  · rw [mi_wi, if_pos ⟨rfl, rfl⟩]
section CPY
variable {N K : Nat} {r : Nat → Int}
theorem cp_T {M : gM} {t s : Nat} {R : gM → Prop} (ds : t + 3 < s ∨ s + 3 < t) (hV : Vt r) (hR : Rt M s r) (hE : ∀ M1, (∀ c, (c < t ∨ t + 3 < c) → g_mi M1 c = g_mi M c) → Rt M1 t r → R M1) : pX5_copyFrom N K M t s R := by
  unfold pX5_copyFrom
  rw [hR.1]
  have h01 : iZ (r 33) = 0 ∨ iZ (r 33) = 1 := by
    rcases hV.1 with z | z
    · rw [z]; exact Or.inl rfl
    · rw [z]; exact Or.inr rfl
  refine ⟨h01, fun M1 h1 => ?_⟩
  obtain ⟨a1, a2, a3⟩ := wi_k h1
  rw [a3]
  rcases hV.1 with z | z
  · rw [z]
    refine ⟨fun q => absurd rfl q, fun _ => hE M1 (fun c q => a1 c (by omega)) ⟨a3, fun q => ?_⟩⟩
    omega
  · have hM := hR.tm z
    have hT := hV.tt z
    have m1 := hT.m1
    rw [z]
    refine ⟨fun _ M2 h2 M3 h3 M4 h4 M5 h5 M6 h6 M7 h7 => ?_, fun q => absurd q (by decide)⟩
    obtain ⟨b1, b2⟩ := cp_k h2
    obtain ⟨c1, c2⟩ := cp_k h3
    obtain ⟨d1, d2⟩ := cp_k h4
    obtain ⟨e1, e2, e3⟩ := wi_k h5
    obtain ⟨f1, f2, f3⟩ := wi_k h6
    obtain ⟨g1, g2, g3⟩ := wi_k h7
    have s4 : ∀ c, s ≤ c → c ≤ s + 3 → g_mi M6 c = g_mi M c := fun c q1 q2 => by rw [f1 c (by omega), e1 c (by omega), d1 c (by omega), c1 c (by omega), b1 c (by omega), a1 c (by omega)]
    have s5 : g_mi M4 s = g_mi M s := by rw [d1 _ (by omega), c1 _ (by omega), b1 _ (by omega), a1 _ (by omega)]
    have s6 : g_mi M5 s = g_mi M s := by rw [e1 _ (by omega), s5]
    refine hE M7 (fun c q => ?_) ⟨?_, fun _ => ⟨?_, ?_, ?_, fun i hi => ?_, fun v hv => ?_, fun v hv => ?_⟩⟩
    · rw [g1 c (by omega), f1 c (by omega), e1 c (by omega), d1 c (by omega), c1 c (by omega), b1 c (by omega), a1 c (by omega)]
    · rw [g2 3 (by omega), f2 3 (by omega), e2 3 (by omega), d1 t (by omega), c1 t (by omega), b1 t (by omega), a3]
    · rw [g2 5 (by omega), f3, s6]; exact hM.d
    · rw [g3, s4 s (by omega) (by omega)]; exact hM.s
    · rw [g2 4 (by omega), f2 4 (by omega), e3, s5]; exact hM.m
    · rw [g1 _ (by omega), f1 _ (by omega), e1 _ (by omega), d1 _ (by omega), c1 _ (by omega), b2 i (by omega), a1 _ (by omega)]; exact hM.k i hi
    · rw [g1 _ (by omega), f1 _ (by omega), e1 _ (by omega), d1 _ (by omega), c2 v hv, b1 _ (by omega), a1 _ (by omega)]; exact hM.g v hv
    · rw [g1 _ (by omega), f1 _ (by omega), e1 _ (by omega), d2 v hv, c1 _ (by omega), b1 _ (by omega), a1 _ (by omega)]; exact hM.p v hv
/-- a State copied -/
theorem cp_S {M : gM} {t s : Nat} {R : gM → Prop} (ds : t + 6 < s ∨ s + 6 < t) (hK : Vk r) (hV : Vt r) (hR : RS M s r) (hE : ∀ M1, (∀ c, (c < t ∨ t + 6 < c) → g_mi M1 c = g_mi M c) → RS M1 t r → R M1) : pX3_copyFrom N K M t s R := by
  obtain ⟨⟨r1, r2, r3, r4, r5⟩, r6, r7, r8⟩ := hR
  have m30 := hK.2.1
  unfold pX3_copyFrom
  intro M1 h1 M2 h2
  obtain ⟨a1, a2⟩ := cp_k h1
  obtain ⟨b1, b2⟩ := cp_k h2
  have k2 : ∀ c, c ≠ t + 1 → c ≠ t + 2 → g_mi M2 c = g_mi M c := fun c q1 q2 => by rw [b1 c q2, a1 c q1]
  refine cp_T (by omega) hV (by
    unfold Rt at r8 ⊢
    rw [k2 _ (by omega) (by omega), k2 _ (by omega) (by omega), k2 _ (by omega) (by omega), k2 _ (by omega) (by omega)]
    exact r8) (fun M3 f3 T3 M4 h4 M5 h5 M6 h6 => ?_)
  obtain ⟨e1, e2, e3⟩ := wi_k h4
  obtain ⟨g1, g2, g3⟩ := wi_k h5
  obtain ⟨i1, i2, i3⟩ := wi_k h6
  have s3 : g_mi M3 s = g_mi M s := by rw [f3 _ (by omega), k2 _ (by omega) (by omega)]
  have s4 : g_mi M4 s = g_mi M s := by rw [e1 _ (by omega), s3]
  have s5 : g_mi M5 s = g_mi M s := by rw [g1 _ (by omega), s4]
  have o : ∀ c, c ≠ t → g_mi M6 c = g_mi M3 c := fun c q => by rw [i1 c q, g1 c q, e1 c q]
  refine hE M6 (fun c q => ?_) ⟨⟨?_, fun j hj => ?_, ?_, ?_, ?_⟩, ?_, ?_, ?_⟩
  · rw [o c (by omega), f3 c (by omega), k2 c (by omega) (by omega)]
  · rw [i2 3 (by omega), g2 3 (by omega), e3, s3]; exact r1
  · rw [o _ (by omega), f3 _ (by omega), b1 _ (by omega), a2 j (by omega)]; exact r2 j hj
  · rw [i2 4 (by omega), g3, s4]; exact r3
  · rw [i3, s5]; exact r4
  · rw [o _ (by omega), f3 _ (by omega), b2 0 (by omega), a1 _ (by omega)]; exact r5
  · rw [o _ (by omega), f3 _ (by omega), b2 1 (by omega), a1 _ (by omega)]; exact r6
  · rw [o _ (by omega), f3 _ (by omega), b2 2 (by omega), a1 _ (by omega)]; exact r7
  · unfold Rt at T3 ⊢
    rw [o _ (by omega), o _ (by omega), o _ (by omega), o _ (by omega)]
    exact T3
end CPY
/-- the class's ring: from slot f on -/
def RHf (M : gM) (h f : Nat) (H : List ((Nat → Int) × Int)) : Prop := f < 17 ∧ H.length ≤ 16 ∧ g_mi M h 2 = iZ f ∧ g_mi M h 3 = iZ H.length ∧ ∀ (j : Nat) e, H[j]? = some e → RS M (h + 3 + 7 * ((f + j) % 17)) e.1 ∧ g_mi M (h + 2) ((f + j) % 17) = iZ e.2
def pshH (H : List ((Nat → Int) × Int)) (e : (Nat → Int) × Int) : List ((Nat → Int) × Int) := if H.length < 16 then H ++ [e] else H.drop 1 ++ [e]
theorem psh_len {H : List ((Nat → Int) × Int)} {e : (Nat → Int) × Int} (h : H.length ≤ 16) : (pshH H e).length = if H.length < 16 then H.length + 1 else 16 := by
  unfold pshH
  split <;> simp <;> omega
theorem slot_8 {M : gM} {h f i : Nat} (hf : f < 17) (hi : i ≤ 17) (h2 : g_mi M h 2 = iZ f) : fX0_slot M h (iZ i) = iZ (((f + i) % 17 : Nat) : Int) := by
  unfold fX0_slot
  rw [h2, iZ_add, show (17 : Int32) = iZ 17 from rfl, iZ_rm (by omega) (by omega) (by omega) (by omega), Int.tmod_eq_emod_of_nonneg (by omega)]
  congr 1
theorem RHf.keep {M M1 : gM} {h f : Nat} {H : List ((Nat → Int) × Int)} (e : RHf M h f H) (k : ∀ c, h ≤ c → c ≤ h + 121 → g_mi M1 c = g_mi M c) : RHf M1 h f H := by
  obtain ⟨e1, e2, e3, e4, e5⟩ := e
  refine ⟨e1, e2, by rw [k h (by omega) (by omega)]; exact e3, by rw [k h (by omega) (by omega)]; exact e4, fun j x hx => ?_⟩
  obtain ⟨x1, x2⟩ := e5 j x hx
  have := Nat.mod_lt (f + j) (show 17 > 0 by omega)
  exact ⟨x1.keep (fun c q1 q2 => k c (by omega) (by omega)), by rw [k _ (by omega) (by omega)]; exact x2⟩
section RING
variable {N K h f : Nat} {H : List ((Nat → Int) × Int)} {r : Nat → Int}
theorem mod17 {f i j : Nat} (hij : i < j) (hj : j ≤ i + 16) : (f + i) % 17 ≠ (f + j) % 17 := by omega
theorem dr_8 {M : gM} {st : Nat} {R : gM → Prop} (hH : RHf M h f H) (hK : Vk r) (hV : Vt r) (hR : RS M st r) (ds : st + 6 < h ∨ h + 121 < st) (hE : ∀ M1, (∀ c, (c < h + 3 + 7 * ((f + H.length) % 17) ∨ h + 3 + 7 * ((f + H.length) % 17) + 6 < c) → g_mi M1 c = g_mi M c) → RHf M1 h f H → RS M1 (h + 3 + 7 * ((f + H.length) % 17)) r → R M1) : pX0_draft N K M h st R := by
  obtain ⟨e1, e2, e3, e4, e5⟩ := hH
  unfold pX0_draft
  intro v1 hv1
  rw [e4, slot_8 e1 (by omega) e3] at hv1
  subst hv1
  have lt := Nat.mod_lt (f + H.length) (show 17 > 0 by omega)
  rw [iZ_cl (by omega)]
  refine ⟨iZ_in (by omega) (by omega) (by omega), cp_S (by omega) hK hV hR (fun M1 k1 s1 => hE M1 k1 ⟨e1, e2, ?_, ?_, fun j x hx => ?_⟩ s1)⟩
  · rw [k1 h (by omega)]; exact e3
  · rw [k1 h (by omega)]; exact e4
  · obtain ⟨x1, x2⟩ := e5 j x hx
    have hj : j < H.length := (List.getElem?_eq_some_iff.mp hx).1
    have ne := mod17 (f := f) hj (by omega)
    have lt2 := Nat.mod_lt (f + j) (show 17 > 0 by omega)
    exact ⟨x1.keep (fun c q1 q2 => k1 c (by omega)), by rw [k1 (h + 2) (by omega)]; exact x2⟩
theorem kp_8 {M : gM} {k : Int} {R : gM → Prop} (hH : RHf M h f H) (hS : RS M (h + 3 + 7 * ((f + H.length) % 17)) r) (hE : ∀ M1 f1, (∀ c, c ≠ h → c ≠ h + 2 → g_mi M1 c = g_mi M c) → RHf M1 h f1 (pshH H (r, k)) → R M1) : pX0_keep N K M h (iZ k) R := by
  obtain ⟨e1, e2, e3, e4, e5⟩ := hH
  unfold pX0_keep
  intro v1 hv1
  rw [e4, slot_8 e1 (by omega) e3] at hv1
  subst hv1
  have lt := Nat.mod_lt (f + H.length) (show 17 > 0 by omega)
  rw [iZ_cl (by omega)]
  refine ⟨iZ_in (by omega) (by omega) (by omega), fun M1 h1 => ?_⟩
  obtain ⟨a1, a2, a3⟩ := wi_k h1
  have m2 : g_mi M1 h 2 = iZ f := by rw [a1 h (by omega)]; exact e3
  have m3 : g_mi M1 h 3 = iZ H.length := by rw [a1 h (by omega)]; exact e4
  have c1 : ((16 : Int32) ≤ iZ (H.length : Int)) = (16 ≤ H.length) := by rw [iZ_l16, iZ_le (by omega) (by omega) (by omega) (by omega)]; exact propext ⟨fun _ => by omega, fun _ => by omega⟩
  rw [m3, c1]
  refine ⟨fun z v2 hv2 M2 h2 => ?_, fun z M2 h2 => ?_⟩
  · have l16 : H.length = 16 := by omega
    rw [show (1 : Int32) = iZ ((1 : Nat) : Int) from rfl, slot_8 e1 (by omega) m2] at hv2
    obtain ⟨b1, b2, b3⟩ := wi_k h2
    have hp : pshH H (r, k) = H.drop 1 ++ [(r, k)] := by unfold pshH; rw [if_neg (by omega)]
    refine hE M2 ((f + 1) % 17) (fun c q1 q2 => by rw [b1 c q1, a1 c q2]) ⟨Nat.mod_lt _ (by omega), by rw [psh_len e2]; split <;> omega, by rw [b3, hv2], ?_, fun j x hx => ?_⟩
    · rw [b2 3 (by omega), m3, psh_len e2, if_neg (by omega), l16]
    · rw [hp] at hx
      have dl : (H.drop 1).length = 15 := by rw [List.length_drop]; omega
      rcases Nat.lt_or_ge j 15 with z2 | z2
      · rw [List.getElem?_append_left (by omega), List.getElem?_drop] at hx
        obtain ⟨x1, x2⟩ := e5 (1 + j) x hx
        have ne := mod17 (f := f) (show 1 + j < H.length by omega) (by omega)
        have eq : ((f + 1) % 17 + j) % 17 = (f + (1 + j)) % 17 := by omega
        have lt2 := Nat.mod_lt (f + (1 + j)) (show 17 > 0 by omega)
        rw [eq]
        refine ⟨x1.keep (fun c q1 q2 => by rw [b1 c (by omega), a1 c (by omega)]), ?_⟩
        rw [b1 _ (by omega), a2 _ (by omega)]; exact x2
      · rw [List.getElem?_append_right (by omega), dl] at hx
        have j15 : j = 15 := by
          rcases Nat.lt_or_ge 0 (j - 15) with w | w
          · rw [List.getElem?_eq_none (by simp; omega)] at hx; cases hx
          · omega
        subst j15
        cases hx
        have eq : ((f + 1) % 17 + 15) % 17 = (f + H.length) % 17 := by omega
        rw [eq]
        refine ⟨hS.keep (fun c q1 q2 => by rw [b1 c (by omega), a1 c (by omega)]), ?_⟩
        rw [b1 _ (by omega)]; exact a3
  · rw [iZ_s1] at h2
    obtain ⟨b1, b2, b3⟩ := wi_k h2
    have hp : pshH H (r, k) = H ++ [(r, k)] := by unfold pshH; rw [if_pos (by omega)]
    refine hE M2 f (fun c q1 q2 => by rw [b1 c q1, a1 c q2]) ⟨e1, by rw [psh_len e2]; split <;> omega, by rw [b2 2 (by omega)]; exact m2, ?_, fun j x hx => ?_⟩
    · rw [b3, psh_len e2, if_pos (by omega)]
    · rw [hp] at hx
      rcases Nat.lt_or_ge j H.length with z2 | z2
      · rw [List.getElem?_append_left z2] at hx
        obtain ⟨x1, x2⟩ := e5 j x hx
        have ne := mod17 (f := f) z2 (by omega)
        have lt2 := Nat.mod_lt (f + j) (show 17 > 0 by omega)
        refine ⟨x1.keep (fun c q1 q2 => by rw [b1 c (by omega), a1 c (by omega)]), ?_⟩
        rw [b1 _ (by omega), a2 _ (by omega)]; exact x2
      · rw [List.getElem?_append_right z2] at hx
        have j15 : j = H.length := by
          rcases Nat.lt_or_ge 0 (j - H.length) with w | w
          · rw [List.getElem?_eq_none (by simp; omega)] at hx; cases hx
          · omega
        subst j15
        rw [Nat.sub_self] at hx
        cases hx
        refine ⟨hS.keep (fun c q1 q2 => by rw [b1 c (by omega), a1 c (by omega)]), ?_⟩
        rw [b1 _ (by omega)]; exact a3
theorem tk_8 {M : gM} {st : Nat} {R : Int32 → gM → Prop} (hH : RHf M h f H) (hV : ∀ e ∈ H, Vk e.1 ∧ Vt e.1) (ds : st + 6 < h ∨ h + 121 < st) (h0 : H.length = 0 → R (-3) M) (hE : ∀ M1 e, H[H.length - 1]? = some e → (∀ c j, (c ≠ h ∨ j ≠ 3) → (c < st ∨ st + 6 < c) → g_mi M1 c j = g_mi M c j) → RHf M1 h f (H.take (H.length - 1)) → RS M1 st e.1 → R (iZ e.2) M1) : pX0_takeBack N K M h st R := by
  obtain ⟨e1, e2, e3, e4, e5⟩ := hH
  unfold pX0_takeBack
  have c1 : (iZ (H.length : Int) ≤ 0) = (H.length = 0) := by rw [iZ_l0, iZ_le (by omega) (by omega) (by omega) (by omega)]; exact propext ⟨fun _ => by omega, fun _ => by omega⟩
  rw [e4, c1]
  refine ⟨h0, fun z v1 hv1 => ?_⟩
  have hl : H.length - 1 < H.length := by omega
  have hx := List.getElem?_eq_getElem hl
  obtain ⟨x1, x2⟩ := e5 _ _ hx
  have hm := hV _ (List.getElem_mem hl)
  generalize H[H.length - 1] = e at *
  rw [iZ_m1 (by omega), slot_8 e1 (by omega) e3] at hv1
  subst hv1
  have lt := Nat.mod_lt (f + (H.length - 1)) (show 17 > 0 by omega)
  rw [iZ_cl (by omega)]
  refine ⟨iZ_in (by omega) (by omega) (by omega), fun M1 h1 => ?_⟩
  rw [iZ_m1 (by omega)] at h1
  obtain ⟨a1, a2, a3⟩ := wi_k h1
  refine cp_S (by omega) hm.1 hm.2 (x1.keep (fun c q1 q2 => a1 c (by omega))) (fun M2 k2 s2 v2 hv2 => ?_)
  have m3 : g_mi M2 h 3 = iZ ((H.length - 1 : Nat) : Int) := by rw [k2 h (by omega)]; exact a3
  have m2 : g_mi M2 h 2 = iZ f := by rw [k2 h (by omega), a2 2 (by omega)]; exact e3
  rw [m3, slot_8 e1 (by omega) m2] at hv2
  subst hv2
  rw [iZ_cl (by omega), k2 (h + 2) (by omega), a1 (h + 2) (by omega), x2]
  have lt3 : (H.take (H.length - 1)).length = H.length - 1 := by rw [List.length_take]; omega
  refine ⟨iZ_in (by omega) (by omega) (by omega), hE M2 e hx (fun c j q1 q2 => ?_) ⟨e1, by omega, m2, by rw [lt3]; exact m3, fun j x hj => ?_⟩ s2⟩
  · rw [k2 c q2]
    by_cases q : c = h
    · subst q; exact a2 j (by omega)
    · rw [a1 c q]
  · rw [List.getElem?_take] at hj
    split at hj
    · obtain ⟨y1, y2⟩ := e5 j x hj
      have lt2 := Nat.mod_lt (f + j) (show 17 > 0 by omega)
      refine ⟨y1.keep (fun c q1 q2 => by rw [k2 c (by omega), a1 c (by omega)]), ?_⟩
      rw [k2 _ (by omega), a1 _ (by omega)]; exact y2
    · cases hj
end RING
