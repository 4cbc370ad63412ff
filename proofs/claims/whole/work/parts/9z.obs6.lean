/-! Calls: count, feed. -/
def cntA (r : Nat → Int) (L ln : Nat) (fr : Nat → Int32) (x : Int) : Int32 := if x = 0 then iZ (r 0) else if x = 1 then iZ (r 31) else if x = 2 then iZ (r 32) else if x = 3 then iZ (r 202) else if x = 4 then iZ (r 203) else if x = 5 then iZ L else if x = 6 then iZ ln else if 7 ≤ x ∧ x ≤ 11 then fr (x - 7).toNat else if x = 12 then iZ (r 204) else if 13 ≤ x ∧ x ≤ 15 then iZ (r (tix (x - 13).toNat)) else -1
theorem cn_use {P : Int32 → Prop} {r : Nat → Int} {L ln : Nat} {fr : Nat → Int32} {x : Int} (h : P (cntA r L ln fr x)) : ((x = 0 → P (iZ (r 0))) ∧ (x = 1 → P (iZ (r 31))) ∧ (x = 2 → P (iZ (r 32))) ∧ (x = 3 → P (iZ (r 202))) ∧ (x = 4 → P (iZ (r 203)))) ∧ ((x = 5 → P (iZ L)) ∧ (x = 6 → P (iZ ln))) ∧ (7 ≤ x ∧ x ≤ 11 → P (fr (x - 7).toNat)) ∧ (x = 12 → P (iZ (r 204))) ∧ (13 ≤ x ∧ x ≤ 15 → P (iZ (r (tix (x - 13).toNat)))) ∧ (¬ (0 ≤ x ∧ x ≤ 15) → P (-1)) := by
  unfold cntA at h
  refine ⟨⟨fun e => ?_, fun e => ?_, fun e => ?_, fun e => ?_, fun e => ?_⟩, ⟨fun e => ?_, fun e => ?_⟩, fun e => ?_, fun e => ?_, fun e => ?_, fun e => ?_⟩
  · rw [if_pos e] at h; exact h
  · rw [if_neg (by omega), if_pos e] at h; exact h
  · rw [if_neg (by omega), if_neg (by omega), if_pos e] at h; exact h
  · rw [if_neg (by omega), if_neg (by omega), if_neg (by omega), if_pos e] at h; exact h
  · rw [if_neg (by omega), if_neg (by omega), if_neg (by omega), if_neg (by omega), if_pos e] at h; exact h
  · rw [if_neg (by omega), if_neg (by omega), if_neg (by omega), if_neg (by omega), if_neg (by omega), if_pos e] at h; exact h
  · rw [if_neg (by omega), if_neg (by omega), if_neg (by omega), if_neg (by omega), if_neg (by omega), if_neg (by omega), if_pos e] at h; exact h
  · rw [if_neg (by omega), if_neg (by omega), if_neg (by omega), if_neg (by omega), if_neg (by omega), if_neg (by omega), if_neg (by omega), if_pos e] at h; exact h
  · rw [if_neg (by omega), if_neg (by omega), if_neg (by omega), if_neg (by omega), if_neg (by omega), if_neg (by omega), if_neg (by omega), if_neg (by omega), if_pos e] at h; exact h
  · rw [if_neg (by omega), if_neg (by omega), if_neg (by omega), if_neg (by omega), if_neg (by omega), if_neg (by omega), if_neg (by omega), if_neg (by omega), if_neg (by omega), if_pos e] at h; exact h
  · rw [if_neg (by omega), if_neg (by omega), if_neg (by omega), if_neg (by omega), if_neg (by omega), if_neg (by omega), if_neg (by omega), if_neg (by omega), if_neg (by omega), if_neg (by omega)] at h; exact h
section OB6
variable {X : gX} {A : Nat} {x1 x2 x3 x4 x5 : Int32}
theorem ob_count : Ob X 1311 0 0 kX8_count kX9_count (INV A) A (A + 329) [.int x1] := by
  obtain ⟨x, rfl, b1, b2⟩ := i32x x1
  have E : ∀ n : Int, -2147483648 ≤ n → n < 2147483648 → (iZ x = iZ n) = (x = n) := fun n n1 n2 => by rw [iZ_eq b1 b2 n1 n2]
  have e0 : (iZ x = 0) = (x = 0) := E 0 (by omega) (by omega)
  have e1 : (iZ x = 1) = (x = 1) := E 1 (by omega) (by omega)
  have e2 : (iZ x = 2) = (x = 2) := E 2 (by omega) (by omega)
  have e3 : (iZ x = 3) = (x = 3) := E 3 (by omega) (by omega)
  have e4 : (iZ x = 4) = (x = 4) := E 4 (by omega) (by omega)
  have e5 : (iZ x = 5) = (x = 5) := E 5 (by omega) (by omega)
  have e6 : (iZ x = 6) = (x = 6) := E 6 (by omega) (by omega)
  have e7 : (iZ x = 7) = (x = 7) := E 7 (by omega) (by omega)
  have e8 : (iZ x = 8) = (x = 8) := E 8 (by omega) (by omega)
  have e9 : (iZ x = 9) = (x = 9) := E 9 (by omega) (by omega)
  have e10 : (iZ x = 10) = (x = 10) := E 10 (by omega) (by omega)
  have e11 : (iZ x = 11) = (x = 11) := E 11 (by omega) (by omega)
  have e12 : (iZ x = 12) = (x = 12) := E 12 (by omega) (by omega)
  have e13 : (iZ x = 13) = (x = 13) := E 13 (by omega) (by omega)
  have e14 : (iZ x = 14) = (x = 14) := E 14 (by omega) (by omega)
  have e15 : (iZ x = 15) = (x = 15) := E 15 (by omega) (by omega)
  have l7 : (iZ x < 7) = (x < 7) := by rw [iZ_l7, iZ_lt b1 b2 (by omega) (by omega)]
  have l13 : (iZ x < 13) = (x < 13) := by rw [iZ_l13, iZ_lt b1 b2 (by omega) (by omega)]
  have g11 : ((11 : Int32) < iZ x) = (11 < x) := by rw [iZ_l11, iZ_lt (by omega) (by omega) b1 b2]
  have g15 : ((15 : Int32) < iZ x) = (15 < x) := by rw [iZ_l15, iZ_lt (by omega) (by omega) b1 b2]
  have s7 : 7 ≤ x ∧ x ≤ 11 → iZ x - 7 = iZ (((x - 7).toNat : Nat) : Int) := fun h => by rw [iZ_l7, iZ_sub]; congr 1; omega
  have s13 : 13 ≤ x ∧ x ≤ 15 → iZ x - 13 = iZ (((x - 13).toNat : Nat) : Int) := fun h => by rw [iZ_l13, iZ_sub]; congr 1; omega
  refine ob_q (P8 := fun M R => pX8_count 20000 1290 M A (iZ x) (fun v => R v M)) (P9 := fun M R => pX9_count 20000 1290 M (A + 329) (iZ x) (fun v => R v M)) (fun M R Q s hh hR => uX8_count (d := 1311) s hh (fun v h => hR v M ⟨rfl, rfl, rfl⟩ h)) (fun M R Q s hh hR => uX9_count (d := 1310) s hh (fun v h => hR v M ⟨rfl, rfl, rfl⟩ h)) (fun r lw H im ilw bt ln fr dr ms hp => ⟨cntA r H.length ln fr x, fun M hc R hR => ?_, fun M hr R hR => ?_⟩)
  · obtain ⟨⟨h0, h1, h2, h3, h4⟩, ⟨h5, h6⟩, h7, h12, h13, hN⟩ := cn_use (P := fun v => R v M) (hR M Q8.rf)
    obtain ⟨w1, w2, w3, w4, _⟩ := hc.2.1
    obtain ⟨f, hf⟩ := hc.2.2.2.1
    have k7 : 7 ≤ x ∧ x ≤ 11 → vp_in (iZ x - 7) 5 ∧ R (g_mi M (A + 304) (iZ x - 7).toNatClampNeg) M := fun h => by
      rw [s7 h, iZ_cl (by omega), hc.2.2.2.2.2.2.2.1 _ (by omega)]
      exact ⟨iZ_in (by omega) (by omega) (by omega), h7 h⟩
    have k13 : 13 ≤ x ∧ x ≤ 15 → vp_in (iZ x - 13) 3 ∧ R (g_mi M (A + 1 + 1 + 2) (iZ x - 13).toNatClampNeg) M := fun h => by
      rw [s13 h, iZ_cl (by omega)]
      refine ⟨iZ_in (by omega) (by omega) (by omega), ?_⟩
      have := h13 h
      rcases (by omega : x = 13 ∨ x = 14 ∨ x = 15) with z | z | z <;> subst z
      · show R (g_mi M (A + 1 + 1 + 2) 0) M
        rw [w1.1.2.2.2.2]; exact this
      · show R (g_mi M (A + 1 + 1 + 2) 1) M
        rw [w1.2.1]; exact this
      · show R (g_mi M (A + 1 + 1 + 2) 2) M
        rw [w1.2.2.1]; exact this
    unfold pX8_count
    rw [e0, e1, e2, e3, e4, e5, e6, e7, e8, e9, e10, e11, e12, l7, l13, g11, g15, w1.1.1, w1.1.2.2.1, w1.1.2.2.2.1, w2, w3, w4, hf.2.2.2.1, hc.2.2.2.2.2.2.1.2.1]
    repeat' (first | (exact k7 (by omega)) | (exact k13 (by omega)) | (exact hN (by omega)) | (exact h0 (by omega)) | (exact h1 (by omega)) | (exact h2 (by omega)) | (exact h3 (by omega)) | (exact h4 (by omega)) | (exact h5 (by omega)) | (exact h6 (by omega)) | (exact h12 (by omega)) | (with_reducible refine And.intro ?_ ?_) | intro _)
  · obtain ⟨⟨h0, h1, h2, h3, h4⟩, ⟨h5, h6⟩, h7, h12, h13, hN⟩ := cn_use (P := fun v => R v M) (hR M Q9.rf)
    have hR9 := hr.2.1
    obtain ⟨q1, q2, q3, q4, q5⟩ := hr.2.2.2.2.2.1
    have k7 : 7 ≤ x ∧ x ≤ 11 → (EX9_refusals M (A + 329) (iZ x - 7)) ∧ ∀ v1 : Int32, v1 = (fX9_refusals M (A + 329) (iZ x - 7)) → R v1 M := fun h => by
      rw [s7 h]
      have := h7 h
      unfold EX9_refusals fX9_refusals
      rcases (by omega : x = 7 ∨ x = 8 ∨ x = 9 ∨ x = 10 ∨ x = 11) with z | z | z | z | z <;> subst z
      · exact ⟨⟨fun w => absurd w (by decide), fun _ => by show vp_in (iZ 1) 7; exact iZ_in (by omega) (by omega) (by omega)⟩, fun v hv => by rw [hv]; show R (g_mi M (A + 329 + 1) 1) M; rw [q1]; exact this⟩
      · exact ⟨⟨fun w => absurd w (by decide), fun _ => by show vp_in (iZ 2) 7; exact iZ_in (by omega) (by omega) (by omega)⟩, fun v hv => by rw [hv]; show R (g_mi M (A + 329 + 1) 2) M; rw [q2]; exact this⟩
      · exact ⟨⟨fun w => absurd w (by decide), fun _ => by show vp_in (iZ 3) 7; exact iZ_in (by omega) (by omega) (by omega)⟩, fun v hv => by rw [hv]; show R (g_mi M (A + 329 + 1) 3) M; rw [q3]; exact this⟩
      · exact ⟨⟨fun _ => by show vp_in (iZ 5) 7; exact iZ_in (by omega) (by omega) (by omega), fun w => absurd (by decide) w⟩, fun v hv => by rw [hv]; show R (g_mi M (A + 329 + 1) 5) M; rw [q4]; exact this⟩
      · exact ⟨⟨fun _ => by show vp_in (iZ 6) 7; exact iZ_in (by omega) (by omega) (by omega), fun w => absurd (by decide) w⟩, fun v hv => by rw [hv]; show R (g_mi M (A + 329 + 1) 6) M; rw [q5]; exact this⟩
    have k13 : 13 ≤ x ∧ x ≤ 15 → ∀ v6 : Int32, v6 = (fX9_termAt (iZ x - 13)) → (vp_in v6 5812) ∧ R (g_mi M (A + 329 + 2) v6.toNatClampNeg) M := fun h v6 hv6 => by
      rw [s13 h] at hv6
      have := h13 h
      rcases (by omega : x = 13 ∨ x = 14 ∨ x = 15) with z | z | z <;> subst z
      · rw [show v6 = iZ ((187 : Nat) : Int) from hv6, iZ_cl (by omega), hR9 _ (by omega)]
        exact ⟨iZ_in (by omega) (by omega) (by omega), this⟩
      · rw [show v6 = iZ ((200 : Nat) : Int) from hv6, iZ_cl (by omega), hR9 _ (by omega)]
        exact ⟨iZ_in (by omega) (by omega) (by omega), this⟩
      · rw [show v6 = iZ ((201 : Nat) : Int) from hv6, iZ_cl (by omega), hR9 _ (by omega)]
        exact ⟨iZ_in (by omega) (by omega) (by omega), this⟩
    unfold pX9_count
    rw [e0, e1, e2, e3, e4, e5, e6, e7, e8, e9, e10, e11, e12, e13, e14, e15, hR9 0 (by omega), hR9 31 (by omega), hR9 32 (by omega), hR9 202 (by omega), hR9 203 (by omega), hR9 204 (by omega), hr.2.2.1.2.1, hr.2.2.2.2.1.2.1]
    repeat' (first | (exact k7 (by omega)) | (exact k13 (by omega)) | (exact hN (by omega)) | (exact h0 (by omega)) | (exact h1 (by omega)) | (exact h2 (by omega)) | (exact h3 (by omega)) | (exact h4 (by omega)) | (exact h5 (by omega)) | (exact h6 (by omega)) | (exact h12 (by omega)) | (with_reducible refine And.intro ?_ ?_) | intro _)
end OB6
/-- a byte of a word -/
def byt (w : Int32) (s : Nat) : Int := ((w.toBitVec.toNat / 2 ^ s % 256 : Nat) : Int)
theorem byt_b (w : Int32) (s : Nat) : 0 ≤ byt w s ∧ byt w s ≤ 255 := by unfold byt; omega
theorem and255 (x : BitVec 32) : (x &&& 255#32).toInt = ((x.toNat % 256 : Nat) : Int) := by
  have e : (x &&& 255#32).toNat = x.toNat % 256 := by
    rw [BitVec.toNat_and, show (255#32).toNat = 2 ^ 8 - 1 from rfl, Nat.and_two_pow_sub_one_eq_mod]
  rw [BitVec.toInt_eq_toNat_cond, e, if_pos (by omega)]
theorem byt_8 {w : Int32} {s : Nat} {t : Int32} (h : (t.toUInt32 &&& Int32.toUInt32 31).toBitVec % 32 = BitVec.ofNat 32 s) (hs : s < 32) : ((w.toUInt32 >>> (t.toUInt32 &&& Int32.toUInt32 31)).toInt32 &&& 255) = iZ (byt w s) := by
  apply Int32.toInt_inj.mp
  rw [iZ_ti (by have := byt_b w s; omega) (by have := byt_b w s; omega)]
  show (((w.toUInt32 >>> (t.toUInt32 &&& Int32.toUInt32 31)).toInt32 &&& 255).toBitVec).toInt = _
  rw [Int32.toBitVec_and, show (255 : Int32).toBitVec = 255#32 from rfl, and255, UInt32.toBitVec_toInt32, UInt32.toBitVec_shiftRight, h]
  unfold byt
  rw [BitVec.ushiftRight_eq', BitVec.toNat_ushiftRight, BitVec.toNat_ofNat, Nat.mod_eq_of_lt (show s < 2 ^ 32 by omega), Nat.shiftRight_eq_div_pow]
  rfl
theorem byt_9 {w : Int32} {s : Nat} {t : Int32} (h : t.toBitVec.smod 32 = BitVec.ofNat 32 s) (hs : s = 0 ∨ s = 8 ∨ s = 16 ∨ s = 24) : ((w >>> t).toInt8.toInt32) = iZ (sb (byt w s)) := by
  have bb := byt_b w s
  have sb1 : -128 ≤ sb (byt w s) ∧ sb (byt w s) ≤ 127 := by unfold sb; split <;> omega
  apply Int32.toInt_inj.mp
  rw [iZ_ti (by omega) (by omega), Int8.toInt_toInt32, Int32.toInt_toInt8]
  have e : (w >>> t).toInt = w.toBitVec.toInt >>> s := by
    show ((w >>> t).toBitVec).toInt = _
    rw [Int32.toBitVec_shiftRight, h, BitVec.sshiftRight', BitVec.toInt_sshiftRight, BitVec.toNat_ofNat, Nat.mod_eq_of_lt (by omega)]
  rw [e, Int.shiftRight_eq_div_pow]
  have n := BitVec.toInt_eq_toNat_cond w.toBitVec
  have lt := w.toBitVec.isLt
  unfold sb byt Int.bmod
  generalize w.toBitVec.toInt = x at *
  generalize w.toBitVec.toNat = y at *
  rcases hs with e | e | e | e <;> subst e <;> simp only [Nat.reducePow] at * <;> (split at n) <;> split <;> split <;> omega
def fedB (bt : Nat → Int) (ln : Nat) (w : Nat → Int32) : Nat → Int := fun i => if i < ln then bt i else byt (w ((i - ln) / 4)) (24 - 8 * ((i - ln) % 4))
theorem fedB_b {bt : Nat → Int} {ln : Nat} {w : Nat → Int32} {i : Nat} (h : i < ln → 0 ≤ bt i ∧ bt i ≤ 255) : 0 ≤ fedB bt ln w i ∧ fedB bt ln w i ≤ 255 := by
  unfold fedB
  split
  · exact h (by assumption)
  · exact byt_b _ _
section FED
variable {N K a b : Nat} {bt : Nat → Int} {l : Nat} {w : Int32}
theorem ap_8 {M : gM} {R : gM → Prop} (hN : 100 ≤ N) (h : Cb M a bt l) (hl : l + 4 ≤ 400) (hw : ∀ j, j < 4 → bt (l + j) = byt w (24 - 8 * j)) (hE : ∀ M1, (∀ c j, c ≠ a + 1 → (c ≠ a ∨ j ≠ 5) → g_mi M1 c j = g_mi M c j) → Cb M1 a bt (l + 4) → R M1) : pX2_append N K M a w R := by
  have loop : ∀ (e j n : Nat) (M1 : gM), j + e = 4 → e + 1 ≤ n → (∀ c i, c ≠ a + 1 → (c ≠ a ∨ i ≠ 5) → g_mi M1 c i = g_mi M c i) → Cb M1 a bt (l + j) → qX2_append N K R n 0 M1 a w (iZ (24 - 8 * (j : Int))) := by
    intro e
    induction e with
    | zero =>
      intro j n M1 hj hn f hC
      obtain ⟨n2, rfl⟩ : ∃ n2, n = n2 + 1 := ⟨n - 1, by omega⟩
      have e4 : j = 4 := by omega
      subst e4
      rw [qX2_append]
      unfold pX2_append_3
      exact ⟨fun _ => hE M1 f hC, fun z => absurd (by decide) z⟩
    | succ e ih =>
      intro j n M1 hj hn f hC
      obtain ⟨n2, rfl⟩ : ∃ n2, n = n2 + 1 := ⟨n - 1, by omega⟩
      rw [qX2_append]
      unfold pX2_append_3
      have z1 : ¬ iZ (24 - 8 * (j : Int)) < 0 := by rw [iZ_l0, iZ_lt (by omega) (by omega) (by omega) (by omega)]; omega
      have z2 : ¬ (400 : Int32) ≤ iZ ((l + j : Nat) : Int) := by rw [iZ_l400, iZ_le (by omega) (by omega) (by omega) (by omega)]; omega
      have sh : ((iZ (24 - 8 * (j : Int))).toUInt32 &&& Int32.toUInt32 31).toBitVec % 32 = BitVec.ofNat 32 (24 - 8 * j) := by
        rcases (by omega : j = 0 ∨ j = 1 ∨ j = 2 ∨ j = 3) with q | q | q | q <;> subst q <;> rfl
      rw [hC.2.1, byt_8 sh (by omega), iZ_cl (show l + j < 2147483648 by omega)]
      refine ⟨fun z => absurd z z1, fun _ => ⟨fun z => absurd z z2, fun _ => ⟨iZ_in (by omega) (by omega) (by omega), fun M2 h2 M3 h3 => ?_⟩⟩⟩
      obtain ⟨a1, a2, a3⟩ := wi_k h2
      rw [a1 a (by omega), hC.2.1, iZ_s1] at h3
      obtain ⟨d1, d2, d3⟩ := wi_k h3
      rw [show (-8 : Int32) = iZ (-8) by rw [iZ_l8, iZ_neg], iZ_add, show (24 : Int) - 8 * (j : Int) + -8 = 24 - 8 * ((j + 1 : Nat) : Int) by omega]
      refine ih (j + 1) n2 M3 (by omega) (by omega) (fun c i q1 q2 => ?_) ⟨by omega, d3, fun i hi => ?_⟩
      · by_cases q : c = a
        · subst q; rw [d2 i (by omega), a1 _ (by omega), f _ i (by omega) (by omega)]
        · rw [d1 c q, a1 c q1, f c i q1 q2]
      · rw [d1 _ (by omega)]
        by_cases q : i = l + j
        · subst q
          rw [a3, hw j (by omega)]
          exact ⟨rfl, byt_b _ _⟩
        · rw [a2 i q]; exact hC.2.2 i (by omega)
  unfold pX2_append pX2_append_0
  exact loop 4 0 N M (by omega) (by omega) (fun _ _ _ _ => rfl) h
end FED
def fivW (x1 x2 x3 x4 x5 : Int32) : Nat → Int32 := fun q => if q = 0 then x1 else if q = 1 then x2 else if q = 2 then x3 else if q = 3 then x4 else x5
theorem nar8 (v : Int8) : narrow .byte (.int v.toInt32) = .int v.toInt32 := by
  show Value.int (v.toInt32.toInt8.toInt32) = _
  rw [Int8.toInt8_toInt32]
section OB7
variable {X : gX} {A : Nat} {x1 x2 x3 x4 x5 : Int32}
theorem ob_feed : Ob X 1311 0 0 kX8_feed kX9_feed (INV A) A (A + 329) [.int x1, .int x2, .int x3, .int x4, .int x5] := by
  refine ob_og (P8 := fun M R => pX8_feed 20000 1290 M A x1 x2 x3 x4 x5 R) (P9 := fun M R => pX9_feed 20000 1290 M (A + 329) x1 x2 x3 x4 x5 R) (fun M R Q s hh hR => uX8_feed (d := 1310) s hh (fun v M1 j h => hR v M1 j.l h)) (fun M R Q s hh hR => uX9_feed (d := 1311) s hh (fun v M1 j h => hR v M1 j.l h)) (fun M r lw H im ilw bt ln fr dr ms hp hc => ?_)
  have hT := hc.2.2.2.2.2.2.1
  have l400 := hT.1
  unfold pX8_feed
  have c1 : (iZ (ln : Int) + 20 ≤ 400) = (ln + 20 ≤ 400) := by rw [iZ_l20, iZ_add, iZ_l400, iZ_le (by omega) (by omega) (by omega) (by omega)]; exact propext ⟨fun _ => by omega, fun _ => by omega⟩
  rw [hT.2.1, c1]
  refine ⟨fun z => ?_, fun z => ?_⟩
  · generalize hw : fivW x1 x2 x3 x4 x5 = w
    have fb : ∀ q j, q < 5 → j < 4 → fedB bt ln w (ln + 4 * q + j) = byt (w q) (24 - 8 * j) := fun q j hq hj => by
      unfold fedB
      rw [if_neg (by omega), show (ln + 4 * q + j - ln) / 4 = q by omega, show (ln + 4 * q + j - ln) % 4 = j by omega]
    have C0 : Cb M (A + 282) (fedB bt ln w) (ln + 4 * 0) := ⟨by omega, hT.2.1, fun i hi => by
      have : fedB bt ln w i = bt i := if_pos (by omega)
      rw [this]; exact hT.2.2 i (by omega)⟩
    have w0 : w 0 = x1 := by rw [← hw]; rfl
    have w1 : w 1 = x2 := by rw [← hw]; rfl
    have w2 : w 2 = x3 := by rw [← hw]; rfl
    have w3 : w 3 = x4 := by rw [← hw]; rfl
    have w4 : w 4 = x5 := by rw [← hw]; rfl
    refine ap_8 (by omega) C0 (by omega) (fun j hj => by rw [fb 0 j (by omega) hj, w0]) (fun M1 k1 C1 => ?_)
    refine ap_8 (l := ln + 4 * 1) (by omega) C1 (by omega) (fun j hj => by rw [fb 1 j (by omega) hj, w1]) (fun M2 k2 C2 => ?_)
    refine ap_8 (l := ln + 4 * 2) (by omega) C2 (by omega) (fun j hj => by rw [fb 2 j (by omega) hj, w2]) (fun M3 k3 C3 => ?_)
    refine ap_8 (l := ln + 4 * 3) (by omega) C3 (by omega) (fun j hj => by rw [fb 3 j (by omega) hj, w3]) (fun M4 k4 C4 => ?_)
    refine ap_8 (l := ln + 4 * 4) (by omega) C4 (by omega) (fun j hj => by rw [fb 4 j (by omega) hj, w4]) (fun M5 k5 C5 => ?_)
    have C6 : Cb M5 (A + 282) (fedB bt ln w) (ln + 20) := C5
    have kk : ∀ c j, c ≠ A + 282 + 1 → (c ≠ A + 282 ∨ j ≠ 5) → g_mi M5 c j = g_mi M c j := fun c j q1 q2 => by rw [k5 c j q1 q2, k4 c j q1 q2, k3 c j q1 q2, k2 c j q1 q2, k1 c j q1 q2]
    have kc : ∀ c, c ≠ A + 282 → c ≠ A + 282 + 1 → g_mi M5 c = g_mi M c := fun c q1 q2 => by funext j; exact kk c j q2 (Or.inl q1)
    rw [C6.2.1]
    refine ⟨fun c q1 q2 => kc c (by omega) (by omega), r, lw, H, im, ilw, fedB bt ln w, ln + 20, fr, dr, ms, hp, fun s => ?_, fun M6 hr => ?_⟩
    · refine hc.mix s (fun c q => kc c (by omega) (by omega)) (hc.2.1.keep s (fun c q1 q2 => kc c (by omega) (by omega)) (fun c q => kc c (by omega) (by omega))) (hc.2.2.2.1.keep (fun c q1 q2 => kc c (by omega) (by omega))) (hc.2.2.2.2.1.keep (by rw [kc _ (by omega) (by omega)])) C6 (hc.2.2.2.2.2.2.2.1.kp (kc _ (by omega) (by omega))) (hc.2.2.2.2.2.2.2.2.1.kp (kc _ (by omega) (by omega))) ⟨?_, ?_, ?_, ?_⟩
      · rw [kc _ (by omega) (by omega)]; exact hc.2.2.2.2.2.2.2.2.2.1
      · rw [kk _ _ (by omega) (by omega)]; exact hc.2.2.2.2.2.2.2.2.2.2.1
      · rw [kc _ (by omega) (by omega)]; exact hc.2.2.2.2.2.2.2.2.2.2.2.1
      · rw [kc _ (by omega) (by omega)]; exact hc.2.2.2.2.2.2.2.2.2.2.2.2
    · show pX9_feed 20000 1290 M6 (A + 329) x1 x2 x3 x4 x5 _
      unfold pX9_feed pX9_feed_0
      rw [hr.2.2.2.2.1.2.1, c1]
      refine ⟨fun _ M7 h7 M8 h8 M9 h9 M10 h10 M11 h11 => ?_, fun q => absurd z q⟩
      have f8 : ∀ c, c ≠ A + 329 + 8 → g_mi M11 c = g_mi M6 c := fun c q => by rw [(wi_k h11).1 c q, (wi_k h10).1 c q, (wi_k h9).1 c q, (wi_k h8).1 c q, (wi_k h7).1 c q]
      have f5 : ∀ q, q < 5 → g_mi M11 (A + 329 + 8) q = w q := fun q hq => by
        rw [h11, mi_wi, h10, mi_wi, h9, mi_wi, h8, mi_wi, h7, mi_wi]
        rcases (by omega : q = 0 ∨ q = 1 ∨ q = 2 ∨ q = 3 ∨ q = 4) with e | e | e | e | e <;> subst e
        · rw [if_neg (by omega), if_neg (by omega), if_neg (by omega), if_neg (by omega), if_pos ⟨rfl, rfl⟩, w0]
        · rw [if_neg (by omega), if_neg (by omega), if_neg (by omega), if_pos ⟨rfl, rfl⟩, w1]
        · rw [if_neg (by omega), if_neg (by omega), if_pos ⟨rfl, rfl⟩, w2]
        · rw [if_neg (by omega), if_pos ⟨rfl, rfl⟩, w3]
        · rw [if_pos ⟨rfl, rfl⟩, w4]
      have loop : ∀ (e k n : Nat) (M12 : gM), k + e = 20 → e + 1 ≤ n → (∀ c, c ≠ A + 329 + 7 → g_mi M12 c = g_mi M11 c) → (∀ i, i < ln + k → g_mi M12 (A + 329 + 7) i = iZ (sb (fedB bt ln w i)) ∧ 0 ≤ fedB bt ln w i ∧ fedB bt ln w i ≤ 255) → qX9_feed 20000 1290 (fun v M3 => v = iZ ((ln + 20 : Nat) : Int) ∧ Kp8 A M6 M3 ∧ (Sl M6 M3 → IR M3 (A + 329) r H im (fedB bt ln w) (ln + 20) fr dr ms)) n 0 M12 (A + 329) (iZ k) := by
        intro e
        induction e with
        | zero =>
          intro k n M12 hk hn f hB
          obtain ⟨n2, rfl⟩ : ∃ n2, n = n2 + 1 := ⟨n - 1, by omega⟩
          have e20 : k = 20 := by omega
          subst e20
          rw [qX9_feed]
          unfold pX9_feed_55
          refine ⟨fun _ M13 h13 => ?_, fun q => absurd (by decide) q⟩
          rw [f _ (by omega), f8 _ (by omega), hr.2.2.2.2.1.2.1, iZ_l20, iZ_add] at h13
          obtain ⟨p1, p2, p3⟩ := wi_k h13
          have kf : ∀ c, c ≠ A + 329 → c ≠ A + 329 + 7 → c ≠ A + 329 + 8 → g_mi M13 c = g_mi M6 c := fun c u1 u2 u3 => by rw [p1 c u1, f c u2, f8 c u3]
          have k0 : ∀ j, j ≠ 13 → g_mi M13 (A + 329) j = g_mi M6 (A + 329) j := fun j u => by rw [p2 j u, f _ (by omega), f8 _ (by omega)]
          refine ⟨p3, fun c q => kf c (by omega) (by omega) (by omega), fun s => ?_⟩
          refine hr.mix s (fun c q => kf c (by omega) (by omega) (by omega)) (hr.2.1.kp (kf _ (by omega) (by omega) (by omega))) (hr.2.2.1.keep (k0 _ (by omega)) (kf _ (by omega) (by omega) (by omega))) ⟨by omega, fun i hi => ?_⟩ p3 (hr.2.2.2.2.2.1.kp (kf _ (by omega) (by omega) (by omega))) (hr.2.2.2.2.2.2.1.kp (k0 _ (by omega)) (kf _ (by omega) (by omega) (by omega))) ⟨?_, ?_, ?_, ?_⟩
          · rw [p1 _ (by omega)]; exact hB i hi
          · rw [k0 _ (by omega)]; exact hr.2.2.2.2.2.2.2.1
          · rw [k0 _ (by omega)]; exact hr.2.2.2.2.2.2.2.2.1
          · rw [k0 _ (by omega)]; exact hr.2.2.2.2.2.2.2.2.2.1
          · rw [k0 _ (by omega)]; exact hr.2.2.2.2.2.2.2.2.2.2
        | succ e ih =>
          intro k n M12 hk hn f hB
          obtain ⟨n2, rfl⟩ : ∃ n2, n = n2 + 1 := ⟨n - 1, by omega⟩
          rw [qX9_feed]
          unfold pX9_feed_55
          have z1 : ¬ (20 : Int32) ≤ iZ (k : Int) := by rw [iZ_l20, iZ_le (by omega) (by omega) (by omega) (by omega)]; omega
          have d4 : iZ (k : Int) / 4 = iZ ((k / 4 : Nat) : Int) := by
            rw [iZ_l4, iZ_div (by omega) (by omega) (by omega) (by omega), Int.tdiv_eq_ediv_of_nonneg (by omega)]; rfl
          have r4 : i_rm (iZ (k : Int)) 4 = iZ ((k % 4 : Nat) : Int) := by
            rw [iZ_l4, iZ_rm (by omega) (by omega) (by omega) (by omega), Int.tmod_eq_emod_of_nonneg (by omega)]; rfl
          have sh : (((24 : Int32) - 8 * iZ ((k % 4 : Nat) : Int)) &&& 31).toBitVec.smod 32 = BitVec.ofNat 32 (24 - 8 * (k % 4)) := by
            rcases (by omega : k % 4 = 0 ∨ k % 4 = 1 ∨ k % 4 = 2 ∨ k % 4 = 3) with q | q | q | q <;> rw [q] <;> decide
          rw [d4, r4, iZ_cl (show k / 4 < 2147483648 by omega), f (A + 329 + 8) (by omega), f5 _ (by omega), f (A + 329) (by omega), f8 (A + 329) (by omega), hr.2.2.2.2.1.2.1, iZ_add, ← Int.natCast_add, iZ_cl (show ln + k < 2147483648 by omega), iZ_s1]
          refine ⟨fun q => absurd q z1, fun _ => ⟨iZ_in (by omega) (by omega) (by omega), iZ_in (by omega) (by omega) (by omega), nar8 _, fun M13 h13 => ?_⟩⟩
          rw [byt_9 sh (by omega)] at h13
          obtain ⟨p1, p2, p3⟩ := wi_k h13
          refine ih (k + 1) n2 M13 (by omega) (by omega) (fun c q => by rw [p1 c q, f c q]) (fun i hi => ?_)
          by_cases q : i = ln + k
          · subst q
            rw [p3]
            have := fb (k / 4) (k % 4) (by omega) (by omega)
            rw [show ln + 4 * (k / 4) + k % 4 = ln + k by omega] at this
            rw [this]
            exact ⟨rfl, byt_b _ _⟩
          · rw [p2 i q]; exact hB i (by omega)
      refine loop 20 0 20000 M11 (by omega) (by omega) (fun _ _ => rfl) (fun i hi => ?_)
      have : fedB bt ln w i = bt i := if_pos (by omega)
      rw [this, f8 _ (by omega)]
      exact hr.2.2.2.2.1.1.2 i (by omega)
  · refine ⟨fun c _ _ => rfl, r, lw, H, im, ilw, bt, ln, fr, dr, ms, hp, fun _ => hc, fun M2 hr => ?_⟩
    show pX9_feed 20000 1290 M2 (A + 329) x1 x2 x3 x4 x5 _
    unfold pX9_feed pX9_feed_0
    rw [hr.2.2.2.2.1.2.1, c1]
    exact ⟨fun q => absurd q z, fun _ => ⟨rfl, fun _ _ => rfl, fun _ => hr⟩⟩
end OB7
