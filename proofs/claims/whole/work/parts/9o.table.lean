/-! table, twin; both programs. -/
def pkC (r : Nat → Int) (v : Int) : Int := if v < 3 * r 34 then r (67 + v.toNat) else 3
def pkT (r : Nat → Int) (i : Int) : Nat → Int
  | 0 => 0
  | j + 1 => 4 * pkT r i j + pkC r (4 * i + 3 - j)
def tbA (r : Nat → Int) (w : Int) : Int := if r 33 = 0 then -1 else if w = 0 then r 34 else if w = 1 then r 35 else if w = 2 then r 36 else if w = 3 then (sbF r (3 * r 34).toNat : Int) else if 4 ≤ w ∧ w ≤ 3 + 3 * r 34 then r (67 + (w - 4).toNat) else if 64 ≤ w ∧ w ≤ 78 ∧ 4 * (w - 64) < 3 * r 34 then pkT r (w - 64) 4 else -1
def wtF (r : Nat → Int) (k : Int) (n : Nat) : Bool := decide (0 < cnt (fun i => decide (r (37 + i) = k)) n)
def twF (r : Nat → Int) (k : Int) : Nat → Nat → Int
  | 0, _ => -1
  | e + 1, i => if nuF r (r (37 + i)) = nuF r k then r (37 + i) else twF r k e (i + 1)
def twA (r : Nat → Int) (k : Int) : Int := if r 33 = 0 then -1 else if 0 ≤ k ∧ k ≤ 999 then (if wtF r k (r 36).toNat = true then -1 else twF r k (r 36).toNat 0) else -1
theorem wtF_s {r : Nat → Int} {k : Int} {i : Nat} : wtF r k (i + 1) = (wtF r k i || decide (r (37 + i) = k)) := by
  unfold wtF
  rw [cnt]
  by_cases c : r (37 + i) = k
  · rw [if_pos (by simpa using c)]
    simp [c]
  · rw [if_neg (by simpa using c)]
    simp [c]
section TBQ
variable {N K : Nat} {r : Nat → Int} {k w : Int}
theorem pkC_b (h : TT r) {v : Int} (v0 : 0 ≤ v) : 0 ≤ pkC r v ∧ pkC r v ≤ 3 := by
  unfold pkC
  have d1 := h.d1
  split
  · exact h.g _ (by omega)
  · omega
theorem pkT_b (h : TT r) {i : Int} (i0 : 0 ≤ i) : ∀ j : Nat, j ≤ 4 → 0 ≤ pkT r i j ∧ pkT r i j ≤ 100 * j * j := by
  intro j hj
  have a0 := pkC_b h (v := 4 * i + 3 - ((0 : Nat) : Int)) (by omega)
  have a1 := pkC_b h (v := 4 * i + 3 - ((1 : Nat) : Int)) (by omega)
  have a2 := pkC_b h (v := 4 * i + 3 - ((2 : Nat) : Int)) (by omega)
  have a3 := pkC_b h (v := 4 * i + 3 - ((3 : Nat) : Int)) (by omega)
  rcases (by omega : j = 0 ∨ j = 1 ∨ j = 2 ∨ j = 3 ∨ j = 4) with e | e | e | e | e <;> subst e <;> simp only [pkT] <;> omega
theorem sa_8 {M : gM} {t : Nat} {x : Int} (h : TT r) (hM : TM M t r) (x1 : -2147483648 ≤ x) (x2 : x < 2147483648) : EX5_signAt M t (iZ x) ∧ fX5_signAt M t (iZ x) = iZ (if 0 ≤ x ∧ x < 3 * r 34 then r (67 + x.toNat) else -1) := by
  have d0 := h.d0
  have d1 := h.d1
  unfold EX5_signAt fX5_signAt
  have c1 : (iZ x < 0) = (x < 0) := by rw [iZ_l0, iZ_lt (by omega) (by omega) (by omega) (by omega)]
  have c2 : ((3 : Int32) * g_mi M t 5 ≤ iZ x) = (3 * r 34 ≤ x) := by rw [hM.d, iZ_l3, iZ_mul, iZ_le (by omega) (by omega) (by omega) (by omega)]
  refine ⟨fun q1 q2 => ?_, ?_⟩
  · rw [c1] at q1
    rw [c2] at q2
    exact iZ_in (by omega) (by omega) (by omega)
  by_cases z : x < 0
  · rw [if_pos (by rw [c1]; exact z), if_neg (by omega), iZ_n1]
  · rw [if_neg (by rw [c1]; exact z)]
    by_cases z2 : 3 * r 34 ≤ x
    · rw [if_pos (by rw [c2]; exact z2), if_neg (by omega), iZ_n1]
    · rw [if_neg (by rw [c2]; exact z2), if_pos (by omega), iZ_nat x1 x2, hM.g _ (by omega)]
theorem pk_8 {M : gM} {t : Nat} {R : Int32 → Prop} {x : Int} (hN : 500 ≤ N) (h : TT r) (hM : TM M t r) (x0 : 0 ≤ x) (x2 : x < 2147483648) (hE : R (iZ (if x ≤ 14 ∧ 4 * x < 3 * r 34 then pkT r x 4 else -1))) : pX5_packed N K M t (iZ x) R := by
  have d0 := h.d0
  have d1 := h.d1
  unfold pX5_packed pX5_packed_0
  have c1 : ¬ iZ x < 0 := by rw [iZ_l0, iZ_lt (by omega) (by omega) (by omega) (by omega)]; omega
  have c2 : ((60 : Int32) ≤ iZ x) = (60 ≤ x) := by rw [iZ_l60, iZ_le (by omega) (by omega) (by omega) (by omega)]
  rw [c2]
  refine ⟨fun z => absurd z c1, fun _ => ⟨fun z => ?_, fun z => ?_⟩⟩
  · rw [if_neg (by omega)] at hE
    rw [iZ_n1]; exact hE
  · obtain ⟨s1, s2⟩ := sa_8 (x := 4 * x) h hM (by omega) (by omega)
    rw [iZ_l4, iZ_mul]
    refine ⟨s1, fun v1 hv1 => ?_⟩
    rw [s2] at hv1
    by_cases c : 4 * x < 3 * r 34
    · rw [if_pos (by omega)] at hv1
      rw [if_pos (by omega)] at hE
      have gb := h.g (4 * x).toNat (by omega)
      refine ⟨fun _ => ?_, fun y => absurd (hv1.symm.trans y) (by rw [iZ_n1, iZ_eq (by omega) (by omega) (by omega) (by omega)]; omega)⟩
      have loop : ∀ (e j n : Nat), j + e = 4 → e + 1 ≤ n → qX5_packed N K R n 0 M t (iZ x) (iZ (pkT r x j)) (iZ (3 - (j : Int))) := by
        intro e
        induction e with
        | zero =>
          intro j n hj hn
          obtain ⟨n2, rfl⟩ : ∃ n2, n = n2 + 1 := ⟨n - 1, by omega⟩
          have e4 : j = 4 := by omega
          subst e4
          rw [qX5_packed]
          unfold pX5_packed_27
          exact ⟨fun _ => hE, fun q => absurd (by decide) q⟩
        | succ e ih =>
          intro j n hj hn
          obtain ⟨n2, rfl⟩ : ∃ n2, n = n2 + 1 := ⟨n - 1, by omega⟩
          rw [qX5_packed]
          unfold pX5_packed_27
          have q1 : ¬ iZ (3 - (j : Int)) < 0 := by rw [iZ_l0, iZ_lt (by omega) (by omega) (by omega) (by omega)]; omega
          obtain ⟨t1, t2⟩ := sa_8 (x := 4 * x + (3 - (j : Int))) h hM (by omega) (by omega)
          refine ⟨fun q => absurd q q1, fun _ => ?_⟩
          rw [iZ_l4, iZ_mul, iZ_add]
          refine ⟨t1, fun v2 hv2 => ?_⟩
          rw [t2] at hv2
          have nx := ih (j + 1) n2 (by omega) (by omega)
          rw [pkT, show 4 * x + 3 - (j : Int) = 4 * x + (3 - (j : Int)) by omega] at nx
          rw [iZ_mul, iZ_n1, iZ_add, iZ_l3, show (3 : Int) - (j : Int) + -1 = 3 - ((j + 1 : Nat) : Int) by omega]
          unfold pkC at nx
          by_cases c3 : 4 * x + (3 - (j : Int)) < 3 * r 34
          · rw [if_pos (by omega)] at hv2
            rw [if_pos c3] at nx
            have gb2 := h.g (4 * x + (3 - (j : Int))).toNat (by omega)
            rw [hv2, iZ_add, Int.mul_comm (pkT r x j) 4]
            exact ⟨fun _ => nx, fun y => absurd y (by rw [iZ_eq (by omega) (by omega) (by omega) (by omega)]; omega)⟩
          · rw [if_neg (by omega)] at hv2
            rw [if_neg c3] at nx
            rw [hv2, iZ_add, iZ_add, Int.mul_comm (pkT r x j) 4]
            exact ⟨fun y => absurd rfl y, fun _ => nx⟩
      exact loop 4 0 N (by omega) (by omega)
    · rw [if_neg (by omega)] at hv1
      rw [if_neg (by omega)] at hE
      rw [hv1]
      exact ⟨fun y => absurd iZ_n1.symm y, fun _ => by rw [iZ_n1]; exact hE⟩
theorem tb_8 {M : gM} {A : Nat} {R : Int32 → Prop} (hN : 500 ≤ N) (hV : Vt r) (hR : Rt M (A + 1 + 1 + 3) r) (w1 : -2147483648 ≤ w) (w2 : w < 2147483648) (hE : R (iZ (tbA r w))) : pX8_table N K M A (iZ w) R := by
  unfold pX8_table
  unfold tbA at hE
  rw [hR.1]
  rcases hV.1 with z | z
  · rw [if_pos z] at hE
    rw [z]
    exact ⟨fun _ => by rw [iZ_n1]; exact hE, fun q => absurd rfl q⟩
  · rw [if_neg (by omega)] at hE
    have h := hV.tt z
    have hM := hR.tm z
    have d0 := h.d0
    have d1 := h.d1
    rw [z]
    have c0 : (iZ w = 0) = (w = 0) := by rw [iZ_l0, iZ_eq (by omega) (by omega) (by omega) (by omega)]
    have c1 : (iZ w = 1) = (w = 1) := by rw [iZ_l1, iZ_eq (by omega) (by omega) (by omega) (by omega)]
    have c2 : (iZ w = 2) = (w = 2) := by rw [iZ_l2, iZ_eq (by omega) (by omega) (by omega) (by omega)]
    have c3 : (iZ w = 3) = (w = 3) := by rw [iZ_l3, iZ_eq (by omega) (by omega) (by omega) (by omega)]
    have cn : (0 ≤ iZ w) = (0 ≤ w) := by rw [iZ_l0, iZ_le (by omega) (by omega) (by omega) (by omega)]
    have c64 : ((64 : Int32) ≤ iZ w) = (64 ≤ w) := by rw [iZ_l64, iZ_le (by omega) (by omega) (by omega) (by omega)]
    rw [cn, c0, c1, c2, c3, c64, hM.d, hM.s, hM.m]
    refine ⟨fun q => absurd q (by decide), fun _ => ⟨fun q => ⟨fun q0 => ?_, fun q0 => ⟨fun q1 => ?_, fun q1 => ⟨fun q2 => ?_, fun q2 => ⟨fun q3 => ?_, fun q3 => ⟨fun q4 => ?_, fun q4 => ?_⟩⟩⟩⟩⟩, fun q => ?_⟩⟩
    · rw [if_pos q0] at hE; exact hE
    · rw [if_neg q0, if_pos q1] at hE; exact hE
    · rw [if_neg q0, if_neg q1, if_pos q2] at hE; exact hE
    · rw [if_neg q0, if_neg q1, if_neg q2, if_pos q3] at hE
      unfold pX5_signsBelow pX5_signsBelow_0
      exact sb_8l (v := 60) (w := (3 * r 34).toNat) h hM (by omega) (by split <;> omega) hE (3 * r 34).toNat 0 N (by omega) (by omega)
    · rw [if_neg q0, if_neg q1, if_neg q2, if_neg q3, if_neg (by omega)] at hE
      rw [iZ_l4, iZ_sub, iZ_l60, iZ_sub, show w - 4 - 60 = w - 64 by omega]
      refine pk_8 hN h hM (by omega) (by omega) ?_
      by_cases c : w - 64 ≤ 14 ∧ 4 * (w - 64) < 3 * r 34
      · rw [if_pos c]; rw [if_pos (by omega)] at hE; exact hE
      · rw [if_neg c]; rw [if_neg (by omega)] at hE; exact hE
    · rw [if_neg q0, if_neg q1, if_neg q2, if_neg q3] at hE
      obtain ⟨s1, s2⟩ := sa_8 (x := w - 4) h hM (by omega) (by omega)
      rw [iZ_l4, iZ_sub]
      refine ⟨s1, fun v3 hv3 => ?_⟩
      rw [hv3, s2]
      by_cases c : 0 ≤ w - 4 ∧ w - 4 < 3 * r 34
      · rw [if_pos c]; rw [if_pos (by omega)] at hE; exact hE
      · rw [if_neg c]; rw [if_neg (by omega), if_neg (by omega)] at hE; exact hE
    · rw [if_neg (by omega), if_neg (by omega), if_neg (by omega), if_neg (by omega), if_neg (by omega), if_neg (by omega)] at hE
      rw [iZ_n1]; exact hE
theorem pk_9 {M : gM} {b : Nat} {R : Int32 → Prop} {x : Int} (hN : 500 ≤ N) (h : TT r) (hR : Rr M b r) (x0 : 0 ≤ x) (x2 : x ≤ 14) (hE : R (iZ (pkT r x 4))) : pX9_packed N K M b (iZ x) R := by
  have d0 := h.d0
  have d1 := h.d1
  have loop : ∀ (e j n : Nat), j + e = 4 → e + 1 ≤ n → qX9_packed N K R n 0 M b (iZ x) (iZ (pkT r x j)) (iZ (4 * x + 3 - (j : Int))) := by
    intro e
    induction e with
    | zero =>
      intro j n hj hn
      obtain ⟨n2, rfl⟩ : ∃ n2, n = n2 + 1 := ⟨n - 1, by omega⟩
      have e4 : j = 4 := by omega
      subst e4
      rw [qX9_packed]
      unfold pX9_packed_8
      have q1 : iZ (4 * x + 3 - ((4 : Nat) : Int)) < 4 * iZ x := by rw [iZ_l4, iZ_mul, iZ_lt (by omega) (by omega) (by omega) (by omega)]; omega
      exact ⟨fun _ => hE, fun q => absurd q1 q⟩
    | succ e ih =>
      intro j n hj hn
      obtain ⟨n2, rfl⟩ : ∃ n2, n = n2 + 1 := ⟨n - 1, by omega⟩
      rw [qX9_packed]
      unfold pX9_packed_8
      have q1 : ¬ iZ (4 * x + 3 - (j : Int)) < 4 * iZ x := by rw [iZ_l4, iZ_mul, iZ_lt (by omega) (by omega) (by omega) (by omega)]; omega
      have q2 : ((3 : Int32) * g_mi M (b + 2) 34 ≤ iZ (4 * x + 3 - (j : Int))) = (3 * r 34 ≤ 4 * x + 3 - (j : Int)) := by rw [hR 34 (by omega), iZ_l3, iZ_mul, iZ_le (by omega) (by omega) (by omega) (by omega)]
      rw [q2]
      have nx := ih (j + 1) n2 (by omega) (by omega)
      rw [pkT] at nx
      unfold pkC at nx
      refine ⟨fun q => absurd q q1, fun _ => ?_⟩
      rw [iZ_l4, iZ_mul, iZ_n1, iZ_add, iZ_l3, show 4 * x + 3 - (j : Int) + -1 = 4 * x + 3 - ((j + 1 : Nat) : Int) by omega]
      refine ⟨fun z => ?_, fun z => ?_⟩
      · rw [if_neg (by omega)] at nx
        rw [iZ_add]
        exact nx
      · rw [if_pos (by omega)] at nx
        have ex : (67 : Int32) + iZ (4 * x + 3 - (j : Int)) = iZ ((67 + (4 * x + 3 - (j : Int)).toNat : Nat) : Int) := by
          rw [show (67 : Int32) = iZ 67 from rfl, iZ_add]
          congr 1
          omega
        rw [ex, iZ_cl (by omega), hR _ (by omega), iZ_add]
        exact ⟨iZ_in (by omega) (by omega) (by omega), nx⟩
  unfold pX9_packed pX9_packed_0
  have := loop 4 0 N (by omega) (by omega)
  rw [iZ_l4, iZ_mul, iZ_l3, iZ_add]
  rw [show 4 * x + 3 - ((0 : Nat) : Int) = 4 * x + 3 by omega] at this
  exact this
theorem tb_9 {M : gM} {b : Nat} {R : Int32 → Prop} (hN : 500 ≤ N) (hV : Vt r) (hR : Rr M b r) (w1 : -2147483648 ≤ w) (w2 : w < 2147483648) (hE : R (iZ (tbA r w))) : pX9_table N K M b (iZ w) R := by
  unfold pX9_table
  unfold tbA at hE
  rw [hR 33 (by omega)]
  rcases hV.1 with z | z
  · rw [if_pos z] at hE
    rw [z]
    exact ⟨fun q => absurd rfl q, fun _ => by rw [iZ_n1]; exact hE⟩
  · rw [if_neg (by omega)] at hE
    have h := hV.tt z
    have d0 := h.d0
    have d1 := h.d1
    rw [z]
    have c0 : (iZ w = 0) = (w = 0) := by rw [iZ_l0, iZ_eq (by omega) (by omega) (by omega) (by omega)]
    have c1 : (iZ w = 1) = (w = 1) := by rw [iZ_l1, iZ_eq (by omega) (by omega) (by omega) (by omega)]
    have c2 : (iZ w = 2) = (w = 2) := by rw [iZ_l2, iZ_eq (by omega) (by omega) (by omega) (by omega)]
    have c3 : (iZ w = 3) = (w = 3) := by rw [iZ_l3, iZ_eq (by omega) (by omega) (by omega) (by omega)]
    rw [c0, c1, c2, c3, hR 34 (by omega), hR 35 (by omega), hR 36 (by omega)]
    refine ⟨fun _ => ⟨fun q0 => ?_, fun q0 => ⟨fun q1 => ?_, fun q1 => ⟨fun q2 => ?_, fun q2 => ⟨fun q3 => ?_, fun q3 => ?_⟩⟩⟩⟩, fun q => absurd q (by decide)⟩
    · rw [if_pos q0] at hE; exact hE
    · rw [if_neg q0, if_pos q1] at hE; exact hE
    · rw [if_neg q0, if_neg q1, if_pos q2] at hE; exact hE
    · rw [if_neg q0, if_neg q1, if_neg q2, if_pos q3] at hE
      rw [iZ_l3, iZ_mul, show 3 * r 34 = (((3 * r 34).toNat : Nat) : Int) by omega]
      exact sb_9 hN h hR (by omega) hE
    · rw [if_neg q0, if_neg q1, if_neg q2, if_neg q3] at hE
      rw [iZ_l3, iZ_mul]
      unfold pX9_signOrByte
      intro v1 hv1
      rw [iZ_l4, iZ_l3, iZ_add, lies_9 (by omega) (by omega) (by omega) (by omega) (by omega) (by omega)] at hv1
      subst hv1
      rw [iB_0, decide_eq_false_iff_not]
      refine ⟨fun q4 v2 hv2 => ?_, fun q4 => ?_⟩
      · rw [if_neg q4] at hE
        rw [iZ_l64, iZ_l78, lies_9 (by omega) (by omega) (by omega) (by omega) (by omega) (by omega)] at hv2
        subst hv2
        rw [iB_0, decide_eq_false_iff_not]
        refine ⟨fun q5 => ?_, fun q5 => ?_⟩
        · have q6 := Classical.not_not.mp q5
          rw [iZ_l64, iZ_sub, iZ_l4, iZ_mul, iZ_le (by omega) (by omega) (by omega) (by omega)]
          refine ⟨fun q7 => ?_, fun q7 => ?_⟩
          · rw [if_neg (by omega)] at hE
            rw [iZ_n1]; exact hE
          · rw [if_pos (by omega)] at hE
            exact pk_9 hN h hR (by omega) (by omega) hE
        · rw [if_neg (by omega)] at hE
          rw [iZ_n1]; exact hE
      · have q5 := Classical.not_not.mp q4
        rw [if_pos q5] at hE
        have ex : (67 : Int32) + iZ w - iZ 4 = iZ ((67 + (w - 4).toNat : Nat) : Int) := by
          rw [show (67 : Int32) = iZ 67 from rfl, iZ_add, iZ_sub]
          congr 1
          omega
        rw [iZ_l4, ex, iZ_cl (by omega), hR _ (by omega)]
        exact ⟨iZ_in (by omega) (by omega) (by omega), hE⟩
theorem hk_8 {M : gM} {t : Nat} {R : Int32 → Prop} (hN : 500 ≤ N) (h : TT r) (hM : TM M t r) (k0 : -2147483648 ≤ k) (k1 : k < 2147483648) (hE : R (iB (wtF r k (r 36).toNat))) : pX5_hadKey N K M t (iZ k) R := by
  have m0 := h.m0
  have m1 := h.m1
  have loop : ∀ (e i n : Nat), i + e = (r 36).toNat → e + 1 ≤ n → wtF r k i = false → qX5_hadKey N K R n 0 M t (iZ k) (iZ i) := by
    intro e
    induction e with
    | zero =>
      intro i n hi hn hf
      obtain ⟨n2, rfl⟩ : ∃ n2, n = n2 + 1 := ⟨n - 1, by omega⟩
      rw [qX5_hadKey]
      unfold pX5_hadKey_2
      have c1 : g_mi M t 4 ≤ iZ (i : Int) := by rw [hM.m, iZ_le (by omega) (by omega) (by omega) (by omega)]; omega
      rw [show (r 36).toNat = i by omega, hf] at hE
      exact ⟨fun _ => hE, fun z => absurd c1 z⟩
    | succ e ih =>
      intro i n hi hn hf
      obtain ⟨n2, rfl⟩ : ∃ n2, n = n2 + 1 := ⟨n - 1, by omega⟩
      rw [qX5_hadKey]
      unfold pX5_hadKey_2
      have c1 : ¬ g_mi M t 4 ≤ iZ (i : Int) := by rw [hM.m, iZ_le (by omega) (by omega) (by omega) (by omega)]; omega
      have kb := h.k i (by omega)
      have c2 : (iZ (r (37 + i)) = iZ k) = (r (37 + i) = k) := by rw [iZ_eq (by omega) (by omega) (by omega) (by omega)]
      rw [iZ_cl (show i < 2147483648 by omega), hM.k i (by omega), c2, iZ_s1]
      refine ⟨fun z => absurd z c1, fun _ => ⟨iZ_in (by omega) (by omega) (by omega), fun z => ?_, fun z => ?_⟩⟩
      · exact ih (i + 1) n2 (by omega) (by omega) (by rw [wtF_s, hf]; simp [z])
      · have : wtF r k (r 36).toNat = true := decide_eq_true (cnt_pos (i := i) (by omega) (by simpa using z))
        rw [this] at hE; exact hE
  unfold pX5_hadKey pX5_hadKey_0
  exact loop (r 36).toNat 0 N (by omega) (by omega) rfl
theorem wt_9 {M : gM} {b : Nat} {R : Int32 → Prop} (hN : 500 ≤ N) (h : TT r) (hR : Rr M b r) (k0 : -2147483648 ≤ k) (k1 : k < 2147483648) (hE : R (iB (wtF r k (r 36).toNat))) : pX9_wasThere N K M b (iZ k) R := by
  have m0 := h.m0
  have m1 := h.m1
  have loop : ∀ (e i n : Nat), i + e = (r 36).toNat → e + 1 ≤ n → qX9_wasThere N K R n 0 M b (iZ k) (iB (wtF r k i)) (iZ i) := by
    intro e
    induction e with
    | zero =>
      intro i n hi hn
      obtain ⟨n2, rfl⟩ : ∃ n2, n = n2 + 1 := ⟨n - 1, by omega⟩
      rw [qX9_wasThere]
      unfold pX9_wasThere_4
      have c1 : g_mi M (b + 2) 36 ≤ iZ (i : Int) := by rw [hR 36 (by omega), iZ_le (by omega) (by omega) (by omega) (by omega)]; omega
      rw [show (r 36).toNat = i by omega] at hE
      exact ⟨fun _ => ⟨iB_o, hE⟩, fun z => absurd c1 z⟩
    | succ e ih =>
      intro i n hi hn
      obtain ⟨n2, rfl⟩ : ∃ n2, n = n2 + 1 := ⟨n - 1, by omega⟩
      rw [qX9_wasThere]
      unfold pX9_wasThere_4
      have c1 : ¬ g_mi M (b + 2) 36 ≤ iZ (i : Int) := by rw [hR 36 (by omega), iZ_le (by omega) (by omega) (by omega) (by omega)]; omega
      have kb := h.k i (by omega)
      have c2 : (iZ (r (37 + i)) = iZ k) = (r (37 + i) = k) := by rw [iZ_eq (by omega) (by omega) (by omega) (by omega)]
      have nx := ih (i + 1) n2 (by omega) (by omega)
      rw [wtF_s] at nx
      rw [show (37 : Int32) = iZ ((37 : Nat) : Int) from rfl, iZ_add, ← Int.natCast_add, iZ_cl (show 37 + i < 2147483648 by omega), hR (37 + i) (by omega), c2, iZ_s1, iB_0]
      refine ⟨fun z => absurd z c1, fun _ => ⟨fun z => ?_, fun z => ⟨iZ_in (by omega) (by omega) (by omega), fun y => ?_, fun y => ?_⟩⟩⟩
      · have : wtF r k i = true := by cases hw : wtF r k i with | true => rfl | false => exact absurd hw z
        rw [this] at nx; exact nx
      · rw [z, decide_eq_false y] at nx; exact nx
      · rw [z, decide_eq_true y] at nx; exact nx
  unfold pX9_wasThere pX9_wasThere_0
  exact loop (r 36).toNat 0 N (by omega) (by omega)
theorem nuF_b (hV : Vt r) : -1 ≤ nuF r k ∧ nuF r k ≤ 60 := by
  unfold nuF
  rcases hV.1 with z | z
  · rw [if_pos z]; omega
  · rw [if_neg (by omega)]
    have := owF_b (k := k) (hV.tt z)
    have := cnt_le (fun u => decide (r (67 + u) ≠ 3)) (owF r k).toNat
    unfold sbF
    omega
theorem tw_8 {M : gM} {A : Nat} {R : Int32 → Prop} (hN : 500 ≤ N) (hV : Vt r) (hR : Rt M (A + 1 + 1 + 3) r) (x1 : -2147483648 ≤ k) (x2 : k < 2147483648) (hE : R (iZ (twA r k))) : pX8_twin N K M A (iZ k) R := by
  unfold pX8_twin pX8_twin_0
  unfold twA at hE
  rw [hR.1]
  rcases hV.1 with z | z
  · rw [if_pos z] at hE
    rw [z]
    exact ⟨fun _ => by rw [iZ_n1]; exact hE, fun q => absurd rfl q⟩
  · rw [if_neg (by omega)] at hE
    have h := hV.tt z
    have hM := hR.tm z
    have m0 := h.m0
    have m1 := h.m1
    rw [z]
    refine ⟨fun q => absurd q (by decide), fun _ v1 hv1 => ?_⟩
    rw [isKey_8 x1 x2] at hv1
    subst hv1
    rw [iB_0, decide_eq_false_iff_not]
    refine ⟨fun y => ?_, fun y => ?_⟩
    · rw [if_neg y] at hE
      rw [iZ_n1]; exact hE
    · have y2 := Classical.not_not.mp y
      rw [if_pos y2] at hE
      refine hk_8 hN h hM x1 x2 ?_
      rw [iB_0]
      refine ⟨fun q => nu_8 hN hV hR y2.1 y2.2 ?_, fun q => ?_⟩
      · rw [if_neg (by rw [q]; decide)] at hE
        have loop : ∀ (e i n : Nat), i + e = (r 36).toNat → e + 1 ≤ n → R (iZ (twF r k e i)) → qX8_twin N K R n 0 M (A + 1 + 1 + 3) (iZ (nuF r k)) (iZ i) := by
          intro e
          induction e with
          | zero =>
            intro i n hi hn hr
            obtain ⟨n2, rfl⟩ : ∃ n2, n = n2 + 1 := ⟨n - 1, by omega⟩
            rw [qX8_twin]
            unfold pX8_twin_44
            have c1 : g_mi M (A + 1 + 1 + 3) 4 ≤ iZ (i : Int) := by rw [hM.m, iZ_le (by omega) (by omega) (by omega) (by omega)]; omega
            exact ⟨fun _ => by rw [iZ_n1]; exact hr, fun w => absurd c1 w⟩
          | succ e ih =>
            intro i n hi hn hr
            obtain ⟨n2, rfl⟩ : ∃ n2, n = n2 + 1 := ⟨n - 1, by omega⟩
            rw [qX8_twin]
            unfold pX8_twin_44
            have c1 : ¬ g_mi M (A + 1 + 1 + 3) 4 ≤ iZ (i : Int) := by rw [hM.m, iZ_le (by omega) (by omega) (by omega) (by omega)]; omega
            have kb := h.k i (by omega)
            rw [iZ_cl (show i < 2147483648 by omega), hM.k i (by omega)]
            refine ⟨fun w => absurd w c1, fun _ => ⟨iZ_in (by omega) (by omega) (by omega), nu_8 hN hV hR kb.1 kb.2 ?_⟩⟩
            have b1 := nuF_b (k := k) hV
            have b2 := nuF_b (k := r (37 + i)) hV
            rw [iZ_eq (by omega) (by omega) (by omega) (by omega), iZ_s1]
            rw [twF] at hr
            refine ⟨fun w => ?_, fun w => ?_⟩
            · rw [if_neg w] at hr; exact ih (i + 1) n2 (by omega) (by omega) hr
            · rw [if_pos w] at hr; exact hr
        exact loop (r 36).toNat 0 N (by omega) (by omega) hE
      · have q2 : wtF r k (r 36).toNat = true := by cases hw : wtF r k (r 36).toNat with | true => rfl | false => exact absurd hw q
        rw [if_pos q2] at hE
        rw [iZ_n1]; exact hE
theorem tw_9 {M : gM} {b : Nat} {R : Int32 → Prop} (hN : 500 ≤ N) (hV : Vt r) (hR : Rr M b r) (x1 : -2147483648 ≤ k) (x2 : k < 2147483648) (hE : R (iZ (twA r k))) : pX9_twin N K M b (iZ k) R := by
  unfold pX9_twin pX9_twin_0
  unfold twA at hE
  rw [hR 33 (by omega)]
  rcases hV.1 with z | z
  · rw [if_pos z] at hE
    rw [z]
    exact ⟨fun _ => by rw [iZ_n1]; exact hE, fun q => absurd rfl q⟩
  · rw [if_neg (by omega)] at hE
    have h := hV.tt z
    have m0 := h.m0
    have m1 := h.m1
    have fn : ∀ k2, 0 ≤ k2 → k2 ≤ 999 → fdA r k2 1 = nuF r k2 := fun k2 a1 a2 => by unfold fdA; rw [if_neg (by omega), if_pos ⟨a1, a2⟩, if_neg (by decide), if_pos rfl]
    rw [z]
    refine ⟨fun q => absurd q (by decide), fun _ => ⟨EisKey_9 x1 x2, fun v1 hv1 => ?_⟩⟩
    rw [isKey_9 x1 x2] at hv1
    subst hv1
    rw [iB_0, decide_eq_false_iff_not]
    refine ⟨fun y => ?_, fun y => ?_⟩
    · rw [if_neg y] at hE
      rw [iZ_n1]; exact hE
    · have y2 := Classical.not_not.mp y
      rw [if_pos y2] at hE
      refine wt_9 hN h hR x1 x2 ?_
      rw [iB_0]
      refine ⟨fun q => ?_, fun q => ?_⟩
      · rw [if_neg (by rw [q]; decide)] at hE
        have loop : ∀ (e i n : Nat), i + e = (r 36).toNat → e + 1 ≤ n → R (iZ (twF r k e i)) → qX9_twin N K R n 0 M b (iZ k) (iZ i) := by
          intro e
          induction e with
          | zero =>
            intro i n hi hn hr
            obtain ⟨n2, rfl⟩ : ∃ n2, n = n2 + 1 := ⟨n - 1, by omega⟩
            rw [qX9_twin]
            unfold pX9_twin_29
            have c1 : g_mi M (b + 2) 36 ≤ iZ (i : Int) := by rw [hR 36 (by omega), iZ_le (by omega) (by omega) (by omega) (by omega)]; omega
            exact ⟨fun _ => by rw [iZ_n1]; exact hr, fun w => absurd c1 w⟩
          | succ e ih =>
            intro i n hi hn hr
            obtain ⟨n2, rfl⟩ : ∃ n2, n = n2 + 1 := ⟨n - 1, by omega⟩
            rw [qX9_twin]
            unfold pX9_twin_29
            have c1 : ¬ g_mi M (b + 2) 36 ≤ iZ (i : Int) := by rw [hR 36 (by omega), iZ_le (by omega) (by omega) (by omega) (by omega)]; omega
            have kb := h.k i (by omega)
            rw [show (37 : Int32) = iZ ((37 : Nat) : Int) from rfl, iZ_add, ← Int.natCast_add, iZ_cl (show 37 + i < 2147483648 by omega), hR (37 + i) (by omega), iZ_l1]
            refine ⟨fun w => absurd w c1, fun _ => ⟨iZ_in (by omega) (by omega) (by omega), fd_9 hN hV hR (by omega) (by omega) (by omega) (by omega) (fd_9 hN hV hR x1 x2 (by omega) (by omega) ?_)⟩⟩
            rw [fn _ kb.1 kb.2, fn _ y2.1 y2.2]
            have b1 := nuF_b (k := k) hV
            have b2 := nuF_b (k := r (37 + i)) hV
            rw [iZ_eq (by omega) (by omega) (by omega) (by omega), ← iZ_l1, iZ_s1]
            rw [twF] at hr
            refine ⟨fun w => ?_, fun w => ?_⟩
            · rw [if_neg w] at hr; exact ih (i + 1) n2 (by omega) (by omega) hr
            · rw [if_pos w] at hr; exact hr
        exact loop (r 36).toNat 0 N (by omega) (by omega) hE
      · have q2 : wtF r k (r 36).toNat = true := by cases hw : wtF r k (r 36).toNat with | true => rfl | false => exact absurd hw q
        rw [if_pos q2] at hE
        rw [iZ_n1]; exact hE
end TBQ
