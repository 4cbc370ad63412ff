/-! What the table tells: own vertex, number, place, signs, bytes, twin; both programs. -/
def owF (r : Nat → Int) (k : Int) : Int := vx k (tgF r 67 k 3 % 3) (r 35) (r 34)
def sbF (r : Nat → Int) (v : Nat) : Nat := cnt (fun u => decide (r (67 + u) ≠ 3)) v
def nuF (r : Nat → Int) (k : Int) : Int := if r 33 = 0 then -1 else (sbF r (owF r k).toNat : Int)
def plF (r : Nat → Int) (k : Int) : Int := if r 36 = 0 then 0 else tgF r 127 k 3 % r 36
def fdA (r : Nat → Int) (k w : Int) : Int := if r 33 = 0 then -1 else if 0 ≤ k ∧ k ≤ 999 then (if w = 0 then owF r k else if w = 1 then nuF r k else if w = 2 then plF r k else -1) else -1
/-- a table is there -/
def TT (r : Nat → Int) : Prop := (r 33 = 1) ∧ (2 ≤ r 34) ∧ (r 34 ≤ 20) ∧ (0 ≤ r 35) ∧ (r 35 ≤ 255) ∧ (0 ≤ r 36) ∧ (r 36 ≤ 30) ∧ (∀ i : Nat, (i : Int) < r 36 → 0 ≤ r (37 + i) ∧ r (37 + i) ≤ 999) ∧ (∀ v : Nat, v < 60 → 0 ≤ r (67 + v) ∧ r (67 + v) ≤ 3) ∧ (∀ v : Nat, v < 60 → 0 ≤ r (127 + v) ∧ r (127 + v) ≤ 29)
theorem TT.h {r : Nat → Int} (a : TT r) : r 33 = 1 := a.1
theorem TT.d0 {r : Nat → Int} (a : TT r) : 2 ≤ r 34 := a.2.1
theorem TT.d1 {r : Nat → Int} (a : TT r) : r 34 ≤ 20 := a.2.2.1
theorem TT.s0 {r : Nat → Int} (a : TT r) : 0 ≤ r 35 := a.2.2.2.1
theorem TT.s1 {r : Nat → Int} (a : TT r) : r 35 ≤ 255 := a.2.2.2.2.1
theorem TT.m0 {r : Nat → Int} (a : TT r) : 0 ≤ r 36 := a.2.2.2.2.2.1
theorem TT.m1 {r : Nat → Int} (a : TT r) : r 36 ≤ 30 := a.2.2.2.2.2.2.1
theorem TT.k {r : Nat → Int} (a : TT r) : ∀ i : Nat, (i : Int) < r 36 → 0 ≤ r (37 + i) ∧ r (37 + i) ≤ 999 := a.2.2.2.2.2.2.2.1
theorem TT.g {r : Nat → Int} (a : TT r) : ∀ v : Nat, v < 60 → 0 ≤ r (67 + v) ∧ r (67 + v) ≤ 3 := a.2.2.2.2.2.2.2.2.1
theorem TT.p {r : Nat → Int} (a : TT r) : ∀ v : Nat, v < 60 → 0 ≤ r (127 + v) ∧ r (127 + v) ≤ 29 := a.2.2.2.2.2.2.2.2.2
theorem Vt.tt {r : Nat → Int} (h : Vt r) (h1 : r 33 = 1) : TT r := by
  obtain ⟨a1, a2, a3, a4, a5, a6, a7, a8, a9⟩ := h.2 h1
  exact ⟨h1, a1, a2, a3, a4, a5, a6, a7, a8, a9⟩
/-- the class's table shows it -/
def TM (M : gM) (t : Nat) (r : Nat → Int) : Prop := (g_mi M t 3 = iZ (r 33)) ∧ (g_mi M t 5 = iZ (r 34)) ∧ (g_mi M t 6 = iZ (r 35)) ∧ (g_mi M t 4 = iZ (r 36)) ∧ (∀ i : Nat, (i : Int) < r 36 → g_mi M (t + 1) i = iZ (r (37 + i))) ∧ (∀ v : Nat, v < 60 → g_mi M (t + 2) v = iZ (r (67 + v))) ∧ (∀ v : Nat, v < 60 → g_mi M (t + 3) v = iZ (r (127 + v)))
theorem TM.h {M : gM} {t : Nat} {r : Nat → Int} (a : TM M t r) : g_mi M t 3 = iZ (r 33) := a.1
theorem TM.d {M : gM} {t : Nat} {r : Nat → Int} (a : TM M t r) : g_mi M t 5 = iZ (r 34) := a.2.1
theorem TM.s {M : gM} {t : Nat} {r : Nat → Int} (a : TM M t r) : g_mi M t 6 = iZ (r 35) := a.2.2.1
theorem TM.m {M : gM} {t : Nat} {r : Nat → Int} (a : TM M t r) : g_mi M t 4 = iZ (r 36) := a.2.2.2.1
theorem TM.k {M : gM} {t : Nat} {r : Nat → Int} (a : TM M t r) : ∀ i : Nat, (i : Int) < r 36 → g_mi M (t + 1) i = iZ (r (37 + i)) := a.2.2.2.2.1
theorem TM.g {M : gM} {t : Nat} {r : Nat → Int} (a : TM M t r) : ∀ v : Nat, v < 60 → g_mi M (t + 2) v = iZ (r (67 + v)) := a.2.2.2.2.2.1
theorem TM.p {M : gM} {t : Nat} {r : Nat → Int} (a : TM M t r) : ∀ v : Nat, v < 60 → g_mi M (t + 3) v = iZ (r (127 + v)) := a.2.2.2.2.2.2
theorem Rt.tm {M : gM} {t : Nat} {r : Nat → Int} (h : Rt M t r) (h1 : r 33 = 1) : TM M t r := by
  obtain ⟨a1, a2, a3, a4, a5, a6⟩ := h.2 h1
  exact ⟨h.1, a1, a2, a3, a4, a5, a6⟩
section TTQ
variable {N K : Nat} {r : Nat → Int} {k : Int}
theorem tgV_b (h : TT r) {i : Nat} (hi : i < 3) : tgV r k i < 60 ∧ vx k i (r 35) (r 34) = ((tgV r k i : Nat) : Int) := by
  have := vx_n (k := k) (j := (i : Int)) (s := r 35) (by omega) (by omega) h.d0 h.d1
  unfold tgV
  omega
theorem tg_b67 (h : TT r) : ∀ i : Nat, i ≤ 3 → 0 ≤ tgF r 67 k i ∧ tgF r 67 k i ≤ 3 * i := by
  intro i
  induction i with
  | zero => intro _; unfold tgF; omega
  | succ i ih =>
    intro hi
    have a := ih (by omega)
    have c := h.g (tgV r k i) (tgV_b h (by omega)).1
    rw [tgF]
    omega
theorem tg_b127 (h : TT r) : ∀ i : Nat, i ≤ 3 → 0 ≤ tgF r 127 k i ∧ tgF r 127 k i ≤ 29 * i := by
  intro i
  induction i with
  | zero => intro _; unfold tgF; omega
  | succ i ih =>
    intro hi
    have a := ih (by omega)
    have c := h.p (tgV r k i) (tgV_b h (by omega)).1
    rw [tgF]
    omega
theorem owF_b (h : TT r) : 0 ≤ owF r k ∧ owF r k < 3 * r 34 ∧ owF r k < 60 := by
  have := tg_b67 (k := k) h 3 (by omega)
  exact vx_n (by omega) (by omega) h.d0 h.d1
theorem rm3 {x : Int} (x0 : 0 ≤ x) (x1 : x ≤ 100) : i_rm (iZ x) 3 = iZ (x % 3) := by
  rw [iZ_l3, iZ_rm (by omega) (by omega) (by omega) (by omega), Int.tmod_eq_emod_of_nonneg x0]
section T8
variable {t : Nat} {M : gM}
theorem ow_8l {R : Int32 → Prop} (h : TT r) (hM : TM M t r) (k0 : 0 ≤ k) (k1 : k ≤ 999) (hE : R (iZ (owF r k))) : ∀ (e i n : Nat), i + e = 3 → e + 1 ≤ n → qX5_ownVertex N K R n 0 M t (iZ k) (iZ (tgF r 67 k i)) (iZ i) := by
  intro e
  induction e with
  | zero =>
    intro i n hi hn
    obtain ⟨n2, rfl⟩ : ∃ n2, n = n2 + 1 := ⟨n - 1, by omega⟩
    have e3 : i = 3 := by omega
    subst e3
    rw [qX5_ownVertex]
    unfold pX5_ownVertex_4
    have tb := tg_b67 (k := k) h 3 (by omega)
    rw [hM.s, hM.d, rm3 (by omega) (by omega), vx_8 k0 (by omega) (by omega) (by omega) h.s0 h.s1 h.d0 h.d1]
    exact ⟨fun _ => ⟨vx_E8 h.d0 h.d1, fun v1 hv1 => by rw [hv1]; exact hE⟩, fun z => absurd (by decide) z⟩
  | succ e ih =>
    intro i n hi hn
    obtain ⟨n2, rfl⟩ : ∃ n2, n = n2 + 1 := ⟨n - 1, by omega⟩
    rw [qX5_ownVertex]
    unfold pX5_ownVertex_4
    have c3 : ¬ (3 : Int32) ≤ iZ (i : Int) := by rw [iZ_l3, iZ_le (by omega) (by omega) (by omega) (by omega)]; omega
    obtain ⟨vb, vi⟩ := tgV_b (k := k) h (show i < 3 by omega)
    rw [hM.s, hM.d, vx_8 k0 (by omega) (show (0 : Int) ≤ (i : Int) by omega) (by omega) h.s0 h.s1 h.d0 h.d1, vi]
    refine ⟨fun z => absurd z c3, fun _ => ⟨vx_E8 h.d0 h.d1, fun v1 hv1 => ?_⟩⟩
    subst hv1
    rw [iZ_cl (show tgV r k i < 2147483648 by omega), hM.g _ vb, iZ_add, iZ_s1]
    exact ⟨iZ_in (by omega) (by omega) (by omega), ih (i + 1) n2 (by omega) (by omega)⟩
theorem ow_8 {R : Int32 → Prop} (hN : 500 ≤ N) (h : TT r) (hM : TM M t r) (k0 : 0 ≤ k) (k1 : k ≤ 999) (hE : R (iZ (owF r k))) : pX5_ownVertex N K M t (iZ k) R := by
  unfold pX5_ownVertex pX5_ownVertex_0
  exact ow_8l h hM k0 k1 hE 3 0 N (by omega) (by omega)
theorem pl_8l {R : Int32 → Prop} (h : TT r) (hM : TM M t r) (k0 : 0 ≤ k) (k1 : k ≤ 999) (hE : R (iZ (plF r k))) : ∀ (e i n : Nat), i + e = 3 → e + 1 ≤ n → qX5_placeOf N K R n 0 M t (iZ k) (iZ (tgF r 127 k i)) (iZ i) := by
  have m0 := h.m0
  have m1 := h.m1
  intro e
  induction e with
  | zero =>
    intro i n hi hn
    obtain ⟨n2, rfl⟩ : ∃ n2, n = n2 + 1 := ⟨n - 1, by omega⟩
    have e3 : i = 3 := by omega
    subst e3
    rw [qX5_placeOf]
    unfold pX5_placeOf_4
    have tb := tg_b127 (k := k) h 3 (by omega)
    have c1 : (iZ (r 36) ≤ 0) = (r 36 ≤ 0) := by rw [iZ_l0, iZ_le (by omega) (by omega) (by omega) (by omega)]
    rw [hM.m, c1]
    unfold plF at hE
    refine ⟨fun _ => ⟨fun z => ?_, fun z => ⟨by rw [iZ_l0, iZ_eq (by omega) (by omega) (by omega) (by omega)]; omega, ?_⟩⟩, fun z => absurd (by decide) z⟩
    · rw [if_pos (by omega)] at hE; exact hE
    · rw [if_neg (by omega)] at hE
      rw [iZ_rm (by omega) (by omega) (by omega) (by omega), Int.tmod_eq_emod_of_nonneg (by omega)]
      exact hE
  | succ e ih =>
    intro i n hi hn
    obtain ⟨n2, rfl⟩ : ∃ n2, n = n2 + 1 := ⟨n - 1, by omega⟩
    rw [qX5_placeOf]
    unfold pX5_placeOf_4
    have c3 : ¬ (3 : Int32) ≤ iZ (i : Int) := by rw [iZ_l3, iZ_le (by omega) (by omega) (by omega) (by omega)]; omega
    obtain ⟨vb, vi⟩ := tgV_b (k := k) h (show i < 3 by omega)
    rw [hM.s, hM.d, vx_8 k0 (by omega) (show (0 : Int) ≤ (i : Int) by omega) (by omega) h.s0 h.s1 h.d0 h.d1, vi]
    refine ⟨fun z => absurd z c3, fun _ => ⟨vx_E8 h.d0 h.d1, fun v1 hv1 => ?_⟩⟩
    subst hv1
    rw [iZ_cl (show tgV r k i < 2147483648 by omega), hM.p _ vb, iZ_add, iZ_s1]
    exact ⟨iZ_in (by omega) (by omega) (by omega), ih (i + 1) n2 (by omega) (by omega)⟩
theorem pl_8 {R : Int32 → Prop} (hN : 500 ≤ N) (h : TT r) (hM : TM M t r) (k0 : 0 ≤ k) (k1 : k ≤ 999) (hE : R (iZ (plF r k))) : pX5_placeOf N K M t (iZ k) R := by
  unfold pX5_placeOf pX5_placeOf_0
  exact pl_8l h hM k0 k1 hE 3 0 N (by omega) (by omega)
theorem sb_8l {R : Int32 → Prop} {v w : Nat} (h : TT r) (hM : TM M t r) (hv : v ≤ 60) (hw : (w : Int) = if (v : Int) ≤ 3 * r 34 then (v : Int) else 3 * r 34) (hE : R (iZ (sbF r w))) : ∀ (e i n : Nat), i + e = w → e + 1 ≤ n → qX5_signsBelow N K R n 0 M t (iZ v) (iZ (sbF r i)) (iZ i) := by
  have d0 := h.d0
  have d1 := h.d1
  intro e
  induction e with
  | zero =>
    intro i n hi hn
    obtain ⟨n2, rfl⟩ : ∃ n2, n = n2 + 1 := ⟨n - 1, by omega⟩
    have e3 : i = w := by omega
    subst e3
    rw [qX5_signsBelow]
    unfold pX5_signsBelow_4
    have c1 : (iZ (v : Int) ≤ iZ (i : Int)) = (v ≤ i) := by rw [iZ_le (by omega) (by omega) (by omega) (by omega)]; exact propext ⟨fun _ => by omega, fun _ => by omega⟩
    rw [hM.d, iZ_l3, iZ_mul, c1]
    refine ⟨fun _ => hE, fun z => ⟨fun _ => hE, fun z2 => absurd ?_ z2⟩⟩
    rw [iZ_le (by omega) (by omega) (by omega) (by omega)]
    split at hw <;> omega
  | succ e ih =>
    intro i n hi hn
    obtain ⟨n2, rfl⟩ : ∃ n2, n = n2 + 1 := ⟨n - 1, by omega⟩
    rw [qX5_signsBelow]
    unfold pX5_signsBelow_4
    have wv : (w : Int) ≤ v ∧ (w : Int) ≤ 3 * r 34 := by split at hw <;> omega
    have c1 : ¬ iZ (v : Int) ≤ iZ (i : Int) := by rw [iZ_le (by omega) (by omega) (by omega) (by omega)]; omega
    have c2 : ¬ iZ (3 * r 34) ≤ iZ (i : Int) := by rw [iZ_le (by omega) (by omega) (by omega) (by omega)]; omega
    have gb := h.g i (by omega)
    have sl : sbF r i ≤ i := cnt_le _ _
    have c3 : (iZ (r (67 + i)) = 3) = (r (67 + i) = 3) := by rw [iZ_l3, iZ_eq (by omega) (by omega) (by omega) (by omega)]
    rw [hM.d, show (3 : Int32) * iZ (r 34) = iZ (3 * r 34) by rw [iZ_l3, iZ_mul], iZ_cl (show i < 2147483648 by omega), hM.g i (by omega), c3, iZ_s1, iZ_s1]
    have q := ih (i + 1) n2 (by omega) (by omega)
    unfold sbF at q ⊢
    rw [cnt] at q
    refine ⟨fun z => absurd z c1, fun _ => ⟨fun z => absurd z c2, fun _ => ⟨iZ_in (by omega) (by omega) (by omega), fun z => ?_, fun z => ?_⟩⟩⟩
    · rw [if_neg (by simp [z])] at q; exact q
    · rw [if_pos (by simp [z])] at q; exact q
theorem sb_8 {R : Int32 → Prop} {v : Nat} (hN : 500 ≤ N) (h : TT r) (hM : TM M t r) (hv : (v : Int) ≤ 3 * r 34) (hE : R (iZ (sbF r v))) : pX5_signsBelow N K M t (iZ v) R := by
  have d1 := h.d1
  unfold pX5_signsBelow pX5_signsBelow_0
  exact sb_8l (w := v) h hM (by omega) (by rw [if_pos hv]) hE v 0 N (by omega) (by omega)
theorem nu_8 {R : Int32 → Prop} (hN : 500 ≤ N) (hV : Vt r) (hR : Rt M t r) (k0 : 0 ≤ k) (k1 : k ≤ 999) (hE : R (iZ (nuF r k))) : pX5_numberOf N K M t (iZ k) R := by
  unfold pX5_numberOf
  unfold nuF at hE
  rw [hR.1]
  rcases hV.1 with z | z
  · rw [if_pos z] at hE
    rw [z]
    refine ⟨fun _ => by rw [iZ_n1]; exact hE, fun q => absurd rfl q⟩
  · rw [if_neg (by omega)] at hE
    have h := hV.tt z
    have ob := owF_b (k := k) h
    rw [z]
    refine ⟨fun q => absurd q (by decide), fun _ => ow_8 hN h (hR.tm z) k0 k1 ?_⟩
    rw [show owF r k = (((owF r k).toNat : Nat) : Int) by omega]
    exact sb_8 hN h (hR.tm z) (by omega) hE
end T8
section T9
variable {b : Nat} {M : gM}
theorem ow_9 {R : Int32 → Prop} (hN : 500 ≤ N) (h : TT r) (hR : Rr M b r) (k0 : 0 ≤ k) (k1 : k ≤ 999) (hE : R (iZ (owF r k))) : pX9_ownOf N K M b (iZ k) R := by
  unfold pX9_ownOf
  have tb := tg_b67 (k := k) h 3 (by omega)
  rw [show (67 : Int32) = iZ ((67 : Nat) : Int) from rfl]
  refine tg_ok hN hR k0 k1 h.s0 h.s1 h.d0 h.d1 (by omega) ?_
  rw [hR 35 (by omega), hR 34 (by omega), rm3 (by omega) (by omega), vx_9 k0 (by omega) (by omega) (by omega) h.s0 h.s1 h.d0 h.d1]
  exact ⟨vx_E9 h.d0 h.d1, fun v2 hv2 => by rw [hv2]; exact hE⟩
theorem pl_9 {R : Int32 → Prop} (hN : 500 ≤ N) (h : TT r) (hR : Rr M b r) (k0 : 0 ≤ k) (k1 : k ≤ 999) (hE : R (iZ (plF r k))) : pX9_placeBy N K M b (iZ k) R := by
  unfold pX9_placeBy
  have m0 := h.m0
  have m1 := h.m1
  have tb := tg_b127 (k := k) h 3 (by omega)
  have c1 : (iZ (r 36) = 0) = (r 36 = 0) := by rw [iZ_l0, iZ_eq (by omega) (by omega) (by omega) (by omega)]
  unfold plF at hE
  rw [hR 36 (by omega), c1, show (127 : Int32) = iZ ((127 : Nat) : Int) from rfl]
  refine ⟨fun z => tg_ok hN hR k0 k1 h.s0 h.s1 h.d0 h.d1 (by omega) ⟨z, ?_⟩, fun z => ?_⟩
  · rw [if_neg z] at hE
    rw [iZ_rm (by omega) (by omega) (by omega) (by omega), Int.tmod_eq_emod_of_nonneg (by omega)]
    exact hE
  · rw [if_pos z] at hE; exact hE
theorem sb_9 {R : Int32 → Prop} {v : Nat} (hN : 500 ≤ N) (h : TT r) (hR : Rr M b r) (hv : v ≤ 60) (hE : R (iZ (sbF r v))) : pX9_signedBelow N K M b (iZ v) R := by
  have loop : ∀ (e i n : Nat), i + e = v → e + 1 ≤ n → qX9_signedBelow N K R n 0 M b (iZ v) (iZ (sbF r i)) (iZ i) := by
    intro e
    induction e with
    | zero =>
      intro i n hi hn
      obtain ⟨n2, rfl⟩ : ∃ n2, n = n2 + 1 := ⟨n - 1, by omega⟩
      have e3 : i = v := by omega
      subst e3
      rw [qX9_signedBelow]
      unfold pX9_signedBelow_4
      have c1 : iZ (i : Int) ≤ iZ (i : Int) := by rw [iZ_le (by omega) (by omega) (by omega) (by omega)]; omega
      exact ⟨fun _ => hE, fun z => absurd c1 z⟩
    | succ e ih =>
      intro i n hi hn
      obtain ⟨n2, rfl⟩ : ∃ n2, n = n2 + 1 := ⟨n - 1, by omega⟩
      rw [qX9_signedBelow]
      unfold pX9_signedBelow_4
      have c1 : ¬ iZ (v : Int) ≤ iZ (i : Int) := by rw [iZ_le (by omega) (by omega) (by omega) (by omega)]; omega
      have gb := h.g i (by omega)
      have c3 : (iZ (r (67 + i)) = 3) = (r (67 + i) = 3) := by rw [iZ_l3, iZ_eq (by omega) (by omega) (by omega) (by omega)]
      rw [show (67 : Int32) = iZ ((67 : Nat) : Int) from rfl, iZ_add, ← Int.natCast_add, iZ_cl (show 67 + i < 2147483648 by omega), hR _ (by omega), c3, iZ_s1, iZ_s1, iZ_l0, iZ_add]
      have q := ih (i + 1) n2 (by omega) (by omega)
      unfold sbF at q ⊢
      rw [cnt] at q
      refine ⟨fun z => absurd z c1, fun _ => ⟨iZ_in (by omega) (by omega) (by omega), fun z => ?_, fun z => ?_⟩⟩
      · rw [if_pos (by simp [z])] at q; exact q
      · rw [if_neg (by simp [z])] at q; rw [Int.add_zero]; exact q
  unfold pX9_signedBelow pX9_signedBelow_0
  exact loop v 0 N (by omega) (by omega)
theorem fd_9 {R : Int32 → Prop} {w : Int} (hN : 500 ≤ N) (hV : Vt r) (hR : Rr M b r) (x1 : -2147483648 ≤ k) (x2 : k < 2147483648) (w1 : -2147483648 ≤ w) (w2 : w < 2147483648) (hE : R (iZ (fdA r k w))) : pX9_found N K M b (iZ k) (iZ w) R := by
  unfold pX9_found
  unfold fdA at hE
  rw [hR 33 (by omega)]
  rcases hV.1 with z | z
  · rw [if_pos z] at hE
    rw [z]
    exact ⟨fun _ => by rw [iZ_n1]; exact hE, fun q => absurd rfl q⟩
  · rw [if_neg (by omega)] at hE
    have h := hV.tt z
    rw [z]
    refine ⟨fun q => absurd q (by decide), fun _ => ⟨EisKey_9 x1 x2, fun v1 hv1 => ?_⟩⟩
    rw [isKey_9 x1 x2] at hv1
    subst hv1
    rw [iB_0, decide_eq_false_iff_not]
    have c0 : (iZ w = 0) = (w = 0) := by rw [iZ_l0, iZ_eq (by omega) (by omega) (by omega) (by omega)]
    have c1 : (iZ w = 1) = (w = 1) := by rw [iZ_l1, iZ_eq (by omega) (by omega) (by omega) (by omega)]
    have c2 : (iZ w = 2) = (w = 2) := by rw [iZ_l2, iZ_eq (by omega) (by omega) (by omega) (by omega)]
    rw [c0, c1, c2]
    refine ⟨fun y => ?_, fun y => ?_⟩
    · have y2 := Classical.not_not.mp y
      rw [if_pos y2] at hE
      refine ⟨fun q => ?_, fun q => ⟨fun q2 => ?_, fun q2 => ⟨fun q3 => ?_, fun q3 => ?_⟩⟩⟩
      · rw [if_pos q] at hE
        exact ow_9 hN h hR y2.1 y2.2 hE
      · rw [if_neg q, if_pos q2] at hE
        refine ow_9 hN h hR y2.1 y2.2 ?_
        have ob := owF_b (k := k) h
        rw [show owF r k = (((owF r k).toNat : Nat) : Int) by omega]
        refine sb_9 hN h hR (by omega) ?_
        unfold nuF at hE
        rw [if_neg (by omega)] at hE
        exact hE
      · rw [if_neg q, if_neg q2, if_pos q3] at hE
        exact pl_9 hN h hR y2.1 y2.2 hE
      · rw [if_neg q, if_neg q2, if_neg q3] at hE
        rw [iZ_n1]; exact hE
    · rw [if_neg y] at hE
      rw [iZ_n1]; exact hE
end T9
section FD8
variable {A : Nat} {M : gM}
theorem fd_8 {R : Int32 → Prop} {w : Int} (hN : 500 ≤ N) (hV : Vt r) (hR : Rt M (A + 1 + 1 + 3) r) (x1 : -2147483648 ≤ k) (x2 : k < 2147483648) (w1 : -2147483648 ≤ w) (w2 : w < 2147483648) (hE : R (iZ (fdA r k w))) : pX8_found N K M A (iZ k) (iZ w) R := by
  unfold pX8_found
  unfold fdA at hE
  rw [hR.1]
  rcases hV.1 with z | z
  · rw [if_pos z] at hE
    rw [z]
    exact ⟨fun _ => by rw [iZ_n1]; exact hE, fun q => absurd rfl q⟩
  · rw [if_neg (by omega)] at hE
    have h := hV.tt z
    rw [z]
    refine ⟨fun q => absurd q (by decide), fun _ v1 hv1 => ?_⟩
    rw [isKey_8 x1 x2] at hv1
    subst hv1
    rw [iB_0, decide_eq_false_iff_not]
    have c0 : (iZ w = 0) = (w = 0) := by rw [iZ_l0, iZ_eq (by omega) (by omega) (by omega) (by omega)]
    have c1 : (iZ w = 1) = (w = 1) := by rw [iZ_l1, iZ_eq (by omega) (by omega) (by omega) (by omega)]
    have c2 : (iZ w = 2) = (w = 2) := by rw [iZ_l2, iZ_eq (by omega) (by omega) (by omega) (by omega)]
    rw [c0, c1, c2]
    refine ⟨fun y => ?_, fun y => ?_⟩
    · have y2 := Classical.not_not.mp y
      rw [if_pos y2] at hE
      refine ⟨fun q => ?_, fun q => ⟨fun q2 => ?_, fun q2 => ⟨fun q3 => ?_, fun q3 => ?_⟩⟩⟩
      · rw [if_pos q] at hE
        exact ow_8 hN h (hR.tm z) y2.1 y2.2 hE
      · rw [if_neg q, if_pos q2] at hE
        exact nu_8 hN hV hR y2.1 y2.2 hE
      · rw [if_neg q, if_neg q2, if_pos q3] at hE
        exact pl_8 hN h (hR.tm z) y2.1 y2.2 hE
      · rw [if_neg q, if_neg q2, if_neg q3] at hE
        rw [iZ_n1]; exact hE
    · rw [if_neg y] at hE
      rw [iZ_n1]; exact hE
end FD8
end TTQ
