/-! How both objects begin; all calls. -/
section BEG
variable {M : gM} {a : Nat}
theorem G5.tb (h : G5 M a) : Tb M a := ⟨h.1, h.2.1.1 0, h.2.2.1.1, h.2.1.1 1, h.2.2.2.1.1, h.2.1.1 2, h.2.2.2.2.1⟩
theorem G3.st (h : G3 M a) : St M a := ⟨h.1, h.2.1.1 0, h.2.2.1.1, h.2.1.1 1, h.2.2.2.1, h.2.1.1 2, h.2.2.2.2.2.tb⟩
theorem G4.su (h : G4 M a) : Su M a := ⟨h.1, h.2.1.1 0, h.2.2.1.1, h.2.1.1 1, h.2.2.2.1⟩
theorem G6.tx {n m : Nat} (h : G6 M a n m) : Tx M a n m := ⟨h.1, h.2.1.1 0, h.2.2.1.1, h.2.1.1 1, h.2.2.2.1.1, h.2.1.1 2, h.2.2.2.2.1.1, h.2.1.1 3, h.2.2.2.2.2.1.1, h.2.1.1 4, h.2.2.2.2.2.2.1.1, h.2.1.1 5, h.2.2.2.2.2.2.2.1⟩
theorem G2.re (h : G2 M a) : Re M a := ⟨h.1, h.2.1.1 0, h.2.2.1.1, h.2.1.1 1, h.2.2.2.1.tx, h.2.1.1 2, h.2.2.2.2.1.1, h.2.1.1 3, h.2.2.2.2.2.1.1, h.2.1.1 7, h.2.2.2.2.2.2.1.1, h.2.1.1 8, h.2.2.2.2.2.2.2.1.1, h.2.1.1 9, h.2.2.2.2.2.2.2.2.1⟩
theorem G7.wh (h : G7 M a) : Wh M a := ⟨h.1, h.2.1.1 0, h.2.2.1.st, h.2.1.1 1, h.2.2.2.1.1, h.2.1.1 2, h.2.2.2.2.1.1, h.2.1.1 3, h.2.2.2.2.2.1⟩
theorem G1.pe (h : G1 M a) (h3 : 3 ≤ a) (hs : Su M (a - 3)) : Pe M a := ⟨h.1, h.2.1.1 0, h.2.2.1.1, h.2.1.1 1, h.2.2.2.1.1, h.2.1.1 2, h.2.2.2.2.1.1, h.2.1.1 3, h.2.2.2.2.2.1.1, h.2.1.1 4, h.2.2.2.2.2.2.1.1, h.2.1.1 5, h.2.2.2.2.2.2.2.1.1, h.2.1.1 6, h.2.2.2.2.2.2.2.2.1, h3, h.2.1.1 7, hs⟩
theorem G0.hi (h : G0 M a) : Hi M a := by
  obtain ⟨h1, h2, h3, h4, h5, s0, s1, s2, s3, s4, s5, s6, s7, s8, s9, s10, s11, s12, s13, s14, s15, s16⟩ := h
  refine ⟨h1, h2.1 0, h3, h2.1 1, h5.1, fun i hi => ?_⟩
  have : i = 0 ∨ i = 1 ∨ i = 2 ∨ i = 3 ∨ i = 4 ∨ i = 5 ∨ i = 6 ∨ i = 7 ∨ i = 8 ∨ i = 9 ∨ i = 10 ∨ i = 11 ∨ i = 12 ∨ i = 13 ∨ i = 14 ∨ i = 15 ∨ i = 16 := by omega
  rcases this with z | z | z | z | z | z | z | z | z | z | z | z | z | z | z | z | z
  · rw [z, show a + 3 + 7 * 0 = a + 3 by omega]; exact ⟨h4.1 0, s0.st⟩
  · rw [z, show a + 3 + 7 * 1 = a + 10 by omega]; exact ⟨h4.1 1, s1.st⟩
  · rw [z, show a + 3 + 7 * 2 = a + 17 by omega]; exact ⟨h4.1 2, s2.st⟩
  · rw [z, show a + 3 + 7 * 3 = a + 24 by omega]; exact ⟨h4.1 3, s3.st⟩
  · rw [z, show a + 3 + 7 * 4 = a + 31 by omega]; exact ⟨h4.1 4, s4.st⟩
  · rw [z, show a + 3 + 7 * 5 = a + 38 by omega]; exact ⟨h4.1 5, s5.st⟩
  · rw [z, show a + 3 + 7 * 6 = a + 45 by omega]; exact ⟨h4.1 6, s6.st⟩
  · rw [z, show a + 3 + 7 * 7 = a + 52 by omega]; exact ⟨h4.1 7, s7.st⟩
  · rw [z, show a + 3 + 7 * 8 = a + 59 by omega]; exact ⟨h4.1 8, s8.st⟩
  · rw [z, show a + 3 + 7 * 9 = a + 66 by omega]; exact ⟨h4.1 9, s9.st⟩
  · rw [z, show a + 3 + 7 * 10 = a + 73 by omega]; exact ⟨h4.1 10, s10.st⟩
  · rw [z, show a + 3 + 7 * 11 = a + 80 by omega]; exact ⟨h4.1 11, s11.st⟩
  · rw [z, show a + 3 + 7 * 12 = a + 87 by omega]; exact ⟨h4.1 12, s12.st⟩
  · rw [z, show a + 3 + 7 * 13 = a + 94 by omega]; exact ⟨h4.1 13, s13.st⟩
  · rw [z, show a + 3 + 7 * 14 = a + 101 by omega]; exact ⟨h4.1 14, s14.st⟩
  · rw [z, show a + 3 + 7 * 15 = a + 108 by omega]; exact ⟨h4.1 15, s15.st⟩
  · rw [z, show a + 3 + 7 * 16 = a + 115 by omega]; exact ⟨h4.1 16, s16.st⟩
theorem G8.ph (h : G8 M a) : Ph M a := by
  obtain ⟨h1, h2, h3, h4, h5, h6, h7, h8, h9, h10, h11, h12, h13, h14, h15, h16, h17, h18, h19, h20⟩ := h
  refine ⟨h1, h2.1 0, h3.wh, h2.1 1, h4, h2.1 2, h6.hi, h2.1 3, h7.hi, h2.1 4, h8.st, h2.1 5, h9.st, h2.1 6, h10.su, h2.1 7, h11.pe (by omega) (by rw [show a + 274 - 3 = a + 271 by omega]; exact h10.su), h2.1 8, h12.re, h2.1 9, h13.tx, h2.1 10, h14, h2.1 11, h16.1, h2.1 12, h17.1, h2.1 13, h18.1, h5.1 0, h19.wh, h5.1 1, h20.wh⟩
theorem G9.mo (h : G9 M a) : Mo M a := by
  obtain ⟨k0, o0, r1, k2, o2, r3, r4, r5, k6, o6, r7, r8, r9, r10, r11, r12, r13, r14, r15, r16, r17, r18, r19, r20, r21, r22, r23⟩ := h
  exact ⟨k0, o0.1 1, r1.1, o0.1 2, k2, o0.1 3, r3.1, o0.1 4, r4.1, o0.1 5, r5.1, o0.1 7, k6, o0.1 11, r7.1, o0.1 12, r8.1, o0.1 15, r9.1, o0.1 16, r10.1, o0.1 17, r11.1, o0.1 26, r12.1, o0.1 29, r13.1, o0.1 30, r14.1, o0.1 31, r15.1, o0.1 32, r16.1, o0.1 33, r17.1, o0.1 34, r18.1, o0.1 36, r19.1, o0.1 37, r20.1, o0.1 39, r21.1, o0.1 46, r22.1, o0.1 47, r23.1⟩
end BEG
/-- the row at the beginning -/
def r00 : Nat → Int := fun i => if i = 200 then 1 else if i = 31 then 4 else if i = 204 then -1 else 0
theorem r00_o {i : Nat} (h1 : i ≠ 200) (h2 : i ≠ 31) (h3 : i ≠ 204) : r00 i = 0 := by unfold r00; rw [if_neg h1, if_neg h2, if_neg h3]
theorem r00_V : Vr r00 := by
  have e : ∀ i, i ≠ 200 → i ≠ 31 → i ≠ 204 → r00 i = 0 := fun i h1 h2 h3 => r00_o h1 h2 h3
  refine ⟨⟨by decide, by decide, fun i hi => ?_, fun i j _ hj => ?_, by decide, by decide, by decide, by decide, by decide, by decide⟩, ⟨Or.inl (by decide), fun h => absurd h (by decide)⟩, by decide, by decide, by decide, fun i hi => ?_, by decide, by decide⟩
  · rw [e 0 (by omega) (by omega) (by omega)] at hi; omega
  · rw [e 0 (by omega) (by omega) (by omega)] at hj; omega
  · rw [e 202 (by omega) (by omega) (by omega)] at hi; omega
theorem Rr00 {M : gM} {b : Nat} (h : ∀ j, g_mi M (b + 2) j = va_up (va_up (va_up (fun _ => 0) 200 (1)) 31 (4)) 204 (-1) j) : Rr M b r00 := fun i hi => by
  rw [h i]
  unfold r00
  by_cases c1 : i = 204
  · subst c1; rfl
  · rw [up_ne c1]
    by_cases c2 : i = 31
    · subst c2; rfl
    · rw [up_ne c2]
      by_cases c3 : i = 200
      · subst c3; rfl
      · rw [up_ne c3, if_neg c3, if_neg c2, if_neg c1]; rfl
theorem Vw00 : ∀ j : Nat, j < 113 → g9w j = iZ ((flt VR).getD j 0) := by decide +kernel
theorem G3.rs {M : gM} {a : Nat} (h : G3 M a) : RS M a r00 := by
  obtain ⟨h1, h2, h3, h4, h5, h6⟩ := h
  refine ⟨⟨h2.2 3, fun i hi => ?_, h2.2 4, h2.2 5, h5.2 0⟩, h5.2 1, h5.2 2, h6.2.1.2 3, fun z => absurd z (by decide)⟩
  rw [r00_o (by omega) (by omega) (by omega)] at hi; omega
theorem INV00 {M : gM} {A : Nat} (h8 : G8 M A) (h9 : G9 M (A + 329)) : INV A M := by
  have hph := h8.ph
  have hmo := h9.mo
  obtain ⟨g1, g2, g3, g4, g5, g6, g7, g8, g9, g10, g11, g12, g13, g14, g15, g16, g17, g18, g19, g20⟩ := h8
  obtain ⟨k0, o0, r1, k2, o2, r3, r4, r5, k6, o6, r7, _⟩ := h9
  have fz : r00 203 = 0 := by decide
  have lwO : ∀ w, (∀ j, g_mr M w j = none) → LwO M w := fun w hw i v hv => by rw [hw i] at hv; cases hv
  have n0 : kl M (A + 296 + 1) = 0 := by unfold kl; rw [g13.2.2.1.1]
  have n5 : kl M (A + 296 + 5) = 0 := by unfold kl; rw [g13.2.2.2.2.2.2.1.1]
  refine ⟨r00, fun _ => [], [], fun _ => none, fun _ _ => [], fun _ => 0, 0, fun _ => 0, fun _ => -1, va_up (va_up (fun _ => 0) 1 (-1)) 3 (-1), ⟨r00_V, fun t ht => ?_, fun e he => (by cases he), fun k q _ hq => (by cases hq)⟩, ⟨hph, ⟨g3.2.2.1.rs, g3.2.1.2 4, g3.2.1.2 5, g3.2.1.2 6, fun i hi => ?_, fun t ht => ?_⟩, ⟨?_, ?_⟩, ⟨0, by decide, by decide, g6.2.1.2 2, g6.2.1.2 3, fun j e he => (by cases he)⟩, ⟨0, by decide, g7.2.1.2 2⟩, ⟨⟨lwO _ g3.2.2.2.2.2.2.2.2, lwO _ g19.2.2.2.2.2.2.2.2, lwO _ g20.2.2.2.2.2.2.2.2⟩, fun k hk => ⟨?_, fun q hq => (by cases hq)⟩⟩, ⟨by omega, g12.2.1.2 5, fun i hi => by omega⟩, fun i _ => g16.2.1 i, fun i hi => ?_, g2.2 16, g12.2.1.2 6, g2.2 15, g2.2 14⟩, ⟨hmo, Rr00 o2.2, ⟨by decide, o0.2 38, fun j e he => (by cases he)⟩, fun k hk => ⟨r4.2.1 k, fun q hq => (by cases hq)⟩, ⟨⟨by omega, fun i hi => by omega⟩, o0.2 13, fun j hj => ?_⟩, ⟨r1.2.1 1, r1.2.1 2, r1.2.1 3, r1.2.1 5, r1.2.1 6⟩, Or.inl ⟨o0.2 48, fun _ _ => rfl⟩, o0.2 0, o0.2 14, o0.2 6, o0.2 40⟩⟩
  · rw [fz] at ht; omega
  · rw [r00_o (by omega) (by omega) (by omega)] at hi; omega
  · rw [fz] at ht; omega
  · unfold TxO
    rw [n0, n5]; exact g13.tx
  · refine ⟨by rw [List.length_nil]; omega, by decide, by rw [n5]; omega, g13.2.1.2 6, 0, g13.2.1.2 7, by omega, fun j c hc => (by cases hc)⟩
  · have : k = 0 ∨ k = 1 := by omega
    rcases this with z | z <;> subst z
    · exact g19.2.1.2 7
    · exact g20.2.1.2 7
  · rw [g15.2 i]; dsimp only; rw [if_pos hi]
  · rw [o6.2 j]; dsimp only; rw [if_pos hj]; exact Vw00 j hj
theorem obAll (X : gX) (A : Nat) : ObAll X 1311 (INV A) A (A + 329) := fun _ _ _ _ _ => ⟨ob_key, ob_vertex, ob_there, ob_ceiling, ob_terms, ob_feed, ob_end, ob_row, ob_blanks, ob_law, ob_orders, ob_fault, ob_stopped, ob_force, ob_add, ob_take, ob_side, ob_seed, ob_build, ob_undo, ob_core, ob_peeled, ob_good, ob_leastSide, ob_found, ob_table, ob_twin, ob_seen, ob_forget, ob_canBe, ob_ask, ob_few, ob_compare, ob_years, ob_drawn, ob_image, ob_back, ob_count, ob_status⟩
