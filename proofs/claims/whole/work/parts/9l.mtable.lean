/-! The table: the reference lays it. -/
abbrev vtT (r : Nat → Int) : Nat → Nat → Nat := vtR r (r 32) (r 31)
theorem tg_ot {r r2 f : Nat → Int} {base k v m V : Nat} (hV : Vd (vtT r) m V) (hk : k < m) (hi : ic (vtT r) k v = true) (h34 : r2 34 = r 31) (h35 : r2 35 = r 32) (hf : ∀ u, u < 60 → r2 (base + u) = f u) : tgF r2 base (r (1 + k)) 3 = otF f (vtT r) k v 3 + f v := by
  obtain ⟨m30, v60, hd⟩ := hV
  obtain ⟨b0, b1, b2, n1, n2, n3⟩ := hd k hk
  have et : ∀ i : Nat, tgV r2 (r (1 + k)) i = vtT r k i := fun i => by unfold tgV vtT vtR; rw [h34, h35]
  rw [tgF, tgF, tgF, tgF, otF, otF, otF, otF, et, et, et, hf _ (by omega), hf _ (by omega), hf _ (by omega)]
  have h3 : vtT r k 0 = v ∨ vtT r k 1 = v ∨ vtT r k 2 = v := by
    unfold ic at hi
    simp only [Bool.or_eq_true, decide_eq_true_eq] at hi
    omega
  rcases h3 with h | h | h
  · rw [if_pos h, if_neg (by omega), if_neg (by omega), h]; omega
  · rw [if_neg (show ¬ vtT r k 0 = v by omega), if_pos h, if_neg (by omega), h]; omega
  · rw [if_neg (show ¬ vtT r k 0 = v by omega), if_neg (show ¬ vtT r k 1 = v by omega), if_pos h, h]; omega
theorem otF_up {f : Nat → Int} {vt : Nat → Nat → Nat} {k v : Nat} {x : Int} : ∀ i, otF (va_up f v x) vt k v i = otF f vt k v i := by
  intro i
  induction i with
  | zero => rfl
  | succ i ih =>
    rw [otF, otF, ih]
    by_cases c : vt k i = v
    · rw [if_pos c, if_pos c]
    · rw [if_neg c, if_neg c, up_ne c]
theorem up_id {f : Nat → Int} {v : Nat} {x : Int} (h : f v = x) : va_up f v x = f := by
  funext i
  by_cases c : i = v
  · rw [c, up_eq]; exact h.symm
  · rw [up_ne c]
theorem up_up {f : Nat → Int} {v : Nat} {x y : Int} : va_up (va_up f v x) v y = va_up f v y := by
  funext i
  by_cases c : i = v
  · rw [c, up_eq, up_eq]
  · rw [up_ne c, up_ne c, up_ne c]
section LT
variable {N K b : Nat} {r : Nat → Int} {L : List (Nat × Nat)}
def Flt (b : Nat) (M M1 : gM) : Prop := ∀ c j, c ≠ b + 2 → g_mi M1 c j = g_mi M c j
theorem Flt.tr {M M1 M2 : gM} (h : Flt b M M1) (h2 : Flt b M1 M2) : Flt b M M2 := fun c j q => (h2 c j q).trans (h c j q)
theorem Flt.wi {M M1 : gM} {i : Nat} {x : Int32} (h : Flt b M M1) : Flt b M (g_wi M1 (b + 2) i x) := fun c j q => by rw [mi_wi, if_neg (by omega)]; exact h c j q
theorem part3 {v : Nat} {d : Int} (d0 : 2 ≤ d) (hv : (v : Int) < 3 * d) : 0 ≤ (v : Int).tdiv d ∧ (v : Int).tdiv d < 3 := by
  rw [Int.tdiv_eq_ediv_of_nonneg (by omega)]
  exact ⟨Int.ediv_nonneg (by omega) (by omega), Int.ediv_lt_of_lt_mul (by omega) (by omega)⟩
theorem lt_sign {M0 : gM} {R : gM → Prop} {k v i0 S : Nat} {p : (Nat → Int) × (Nat → Int)} (hN : 500 ≤ N) (hV : Vk r) (hk : k < (r 0).toNat) (hv : (v : Int) < 3 * r 31) (hi : ic (vtT r) k v = true) (hi0 : i0 < 30) (h13 : g_mi M0 (b + 13) i0 = iZ (r (1 + k))) (hp : ∀ u, u < 60 → 0 ≤ p.1 u ∧ p.1 u ≤ 3) (hS : (S : Int) = ((v : Int).tdiv (r 31) - otF p.1 (vtT r) k v 3) % 3) : ∀ (e s n : Nat) (M : gM), s + e = S → e + 1 ≤ n → Flt b M0 M → Rr M b (tbR r (va_up p.1 v s, p.2)) → (∀ M1 n1, Flt b M0 M1 → Rr M1 b (tbR r (va_up p.1 v S, p.2)) → n ≤ n1 + e + 1 → qX9_laysTable N K R n1 4 M1 b (iZ (r 0)) (iZ i0) (iZ v)) → qX9_laysTable N K R n 3 M b (iZ (r 0)) (iZ i0) (iZ v) := by
  have r0 := hV.1
  have r30 := hV.2.1
  have d0 := hV.2.2.2.2.1
  have d1 := hV.2.2.2.2.2.1
  have s0 := hV.2.2.2.2.2.2.1
  have s1 := hV.2.2.2.2.2.2.2.1
  have kb := hV.2.2.1 k (by omega)
  have hVd := vtR_V (s := r 32) hV d0 d1
  have v3 : ∀ i, i < 3 → vtT r k i < 60 := fun i h => by have := (pii_w hVd hk h).2; show vtR r (r 32) (r 31) k i < 60; omega
  have ob := otF_b (f := p.1) (vt := vtT r) (k := k) (v := v) (B := 3) hp v3 3 (by omega)
  have pt := part3 d0 hv
  have S3 := Int.emod_lt_of_pos ((v : Int).tdiv (r 31) - otF p.1 (vtT r) k v 3) (show (0 : Int) < 3 by decide)
  intro e
  induction e with
  | zero =>
    intro s n M hs hn f hR hE
    obtain ⟨n2, rfl⟩ : ∃ n2, n = n2 + 1 := ⟨n - 1, by omega⟩
    rw [qX9_laysTable, if_neg (by decide), if_neg (by decide), if_neg (by decide), if_pos rfl]
    unfold pX9_laysTable_147
    rw [iZ_cl (show i0 < 2147483648 by omega), f _ _ (by omega), h13, show (67 : Int32) = iZ ((67 : Nat) : Int) from rfl]
    refine ⟨iZ_in (by omega) (by omega) (by omega), ?_⟩
    refine tg_ok hN hR kb.1 kb.2 (by rw [tbR_35]; exact s0) (by rw [tbR_35]; exact s1) (by rw [tbR_34]; exact d0) (by rw [tbR_34]; exact d1) (by omega) ?_
    rw [tg_ot (r := r) (f := va_up p.1 v s) hVd hk hi tbR_34 tbR_35 (fun u hu => tbR_s hu), otF_up, up_eq, hR 31 (by omega), tbR_lo (by omega)]
    have e1 : (i_rm (iZ (otF p.1 (vtT r) k v 3 + s)) 3 = iZ (v : Int) / iZ (r 31)) = True := by
      rw [iZ_l3, iZ_rm (by omega) (by omega) (by omega) (by omega), iZ_div (by omega) (by omega) (by omega) (by omega), iZ_eq (by have := tmod_b (x := otF p.1 (vtT r) k v 3 + s) (y := 3); split at this <;> omega) (by have := tmod_b (x := otF p.1 (vtT r) k v 3 + s) (y := 3); split at this <;> omega) (by omega) (by omega), Int.tmod_eq_emod_of_nonneg (by omega), mod_hit pt.1 pt.2 (by omega) (by omega)]
      exact eq_true (by omega)
    rw [e1]
    refine ⟨by rw [iZ_l0, iZ_eq (by omega) (by omega) (by omega) (by omega)]; omega, fun _ => hE M n2 f (by rw [show S = s by omega]; exact hR) (by omega), fun z => absurd trivial z⟩
  | succ e ih =>
    intro s n M hs hn f hR hE
    obtain ⟨n2, rfl⟩ : ∃ n2, n = n2 + 1 := ⟨n - 1, by omega⟩
    rw [qX9_laysTable, if_neg (by decide), if_neg (by decide), if_neg (by decide), if_pos rfl]
    unfold pX9_laysTable_147
    rw [iZ_cl (show i0 < 2147483648 by omega), f _ _ (by omega), h13, show (67 : Int32) = iZ ((67 : Nat) : Int) from rfl]
    refine ⟨iZ_in (by omega) (by omega) (by omega), ?_⟩
    refine tg_ok hN hR kb.1 kb.2 (by rw [tbR_35]; exact s0) (by rw [tbR_35]; exact s1) (by rw [tbR_34]; exact d0) (by rw [tbR_34]; exact d1) (by omega) ?_
    rw [tg_ot (r := r) (f := va_up p.1 v s) hVd hk hi tbR_34 tbR_35 (fun u hu => tbR_s hu), otF_up, up_eq, hR 31 (by omega), tbR_lo (by omega)]
    have e1 : (i_rm (iZ (otF p.1 (vtT r) k v 3 + s)) 3 = iZ (v : Int) / iZ (r 31)) = False := by
      rw [iZ_l3, iZ_rm (by omega) (by omega) (by omega) (by omega), iZ_div (by omega) (by omega) (by omega) (by omega), iZ_eq (by have := tmod_b (x := otF p.1 (vtT r) k v 3 + s) (y := 3); split at this <;> omega) (by have := tmod_b (x := otF p.1 (vtT r) k v 3 + s) (y := 3); split at this <;> omega) (by omega) (by omega), Int.tmod_eq_emod_of_nonneg (by omega), mod_hit pt.1 pt.2 (by omega) (by omega)]
      exact eq_false (by omega)
    rw [e1, iZ_add, ← Int.natCast_add, iZ_cl (show 67 + v < 2147483648 by omega), hR _ (by omega), tbR_s (by omega)]
    dsimp only
    rw [up_eq, iZ_s1]
    refine ⟨by rw [iZ_l0, iZ_eq (by omega) (by omega) (by omega) (by omega)]; omega, fun z => z.elim, fun _ => ⟨iZ_in (by omega) (by omega) (by omega), fun M1 h1 => ?_⟩⟩
    have R1 := hR.up (i := 67 + v) (x := ((s + 1 : Nat) : Int))
    rw [tbR_us (by omega)] at R1
    dsimp only at R1
    rw [up_up] at R1
    refine ih (s + 1) n2 M1 (by omega) (by omega) (by rw [h1]; exact f.wi) (by rw [h1]; exact R1) (fun M2 n3 g1 g2 g3 => hE M2 n3 g1 g2 (by omega))
theorem lt_step {M0 : gM} {R : gM → Prop} {k v i0 S : Nat} {p : (Nat → Int) × (Nat → Int)} (hN : 500 ≤ N) (hV : Vk r) (hk : k < (r 0).toNat) (hv : (v : Int) < 3 * r 31) (hi : ic (vtT r) k v = true) (hi0 : i0 < 30) (h13 : g_mi M0 (b + 13) i0 = iZ (r (1 + k))) (hp : ∀ u, u < 60 → 0 ≤ p.2 u ∧ p.2 u ≤ 29) (hS : (S : Int) = ((k : Int) - otF p.2 (vtT r) k v 3) % r 0) : ∀ (e s n : Nat) (M : gM), s + e = S → e + 1 ≤ n → Flt b M0 M → Rr M b (tbR r (p.1, va_up p.2 v s)) → (∀ M1 n1, Flt b M0 M1 → Rr M1 b (tbR r (p.1, va_up p.2 v S)) → n ≤ n1 + e + 1 → qX9_laysTable N K R n1 2 M1 b (iZ (r 0)) (iZ i0 + -1) 0) → qX9_laysTable N K R n 4 M b (iZ (r 0)) (iZ i0) (iZ v) := by
  have r0 := hV.1
  have r30 := hV.2.1
  have d0 := hV.2.2.2.2.1
  have d1 := hV.2.2.2.2.2.1
  have s0 := hV.2.2.2.2.2.2.1
  have s1 := hV.2.2.2.2.2.2.2.1
  have kb := hV.2.2.1 k (by omega)
  have hVd := vtR_V (s := r 32) hV d0 d1
  have v3 : ∀ i, i < 3 → vtT r k i < 60 := fun i h => by have := (pii_w hVd hk h).2; show vtR r (r 32) (r 31) k i < 60; omega
  have ob := otF_b (f := p.2) (vt := vtT r) (k := k) (v := v) (B := 29) hp v3 3 (by omega)
  have S3 := Int.emod_lt_of_pos ((k : Int) - otF p.2 (vtT r) k v 3) (show 0 < r 0 by omega)
  have lk : ∀ q, lo (tbR r q) (r (1 + k)) = k := fun q => lo_at (tbR_V hV) (by rw [tbR_lo (by omega)]; omega) (fun j hj => by rw [tbR_lo (by omega)]; exact hV.2.2.2.1 j k hj (by omega)) (fun _ => by rw [tbR_lo (by omega)]; exact Int.le_refl _)
  intro e
  induction e with
  | zero =>
    intro s n M hs hn f hR hE
    obtain ⟨n2, rfl⟩ : ∃ n2, n = n2 + 1 := ⟨n - 1, by omega⟩
    rw [qX9_laysTable, if_neg (by decide), if_neg (by decide), if_neg (by decide), if_neg (by decide)]
    unfold pX9_laysTable_189
    rw [iZ_cl (show i0 < 2147483648 by omega), f _ _ (by omega), h13, show (127 : Int32) = iZ ((127 : Nat) : Int) from rfl]
    refine ⟨iZ_in (by omega) (by omega) (by omega), ?_⟩
    refine tg_ok hN hR kb.1 kb.2 (by rw [tbR_35]; exact s0) (by rw [tbR_35]; exact s1) (by rw [tbR_34]; exact d0) (by rw [tbR_34]; exact d1) (by omega) ?_
    rw [tg_ot (r := r) (f := va_up p.2 v s) hVd hk hi tbR_34 tbR_35 (fun u hu => tbR_p hu), otF_up, up_eq]
    obtain ⟨l1, l2⟩ := lo_9 (N := N) (k := r (1 + k)) (by omega) (tbR_V hV) hR (by omega) (by omega)
    rw [lk] at l2
    refine ⟨by rw [iZ_l0, iZ_eq (by omega) (by omega) (by omega) (by omega)]; omega, l1, fun v2 hv2 => ?_⟩
    rw [l2] at hv2
    subst hv2
    have e1 : (i_rm (iZ (otF p.2 (vtT r) k v 3 + s)) (iZ (r 0)) = iZ (k : Int)) = True := by
      rw [iZ_rm (by omega) (by omega) (by omega) (by omega), iZ_eq (by have := tmod_b (x := otF p.2 (vtT r) k v 3 + s) (y := r 0); split at this <;> omega) (by have := tmod_b (x := otF p.2 (vtT r) k v 3 + s) (y := r 0); split at this <;> omega) (by omega) (by omega), Int.tmod_eq_emod_of_nonneg (by omega), mod_hit (by omega) (by omega) (by omega) (by omega)]
      exact eq_true (by omega)
    rw [e1]
    exact ⟨fun _ => hE M n2 f (by rw [show S = s by omega]; exact hR) (by omega), fun z => absurd trivial z⟩
  | succ e ih =>
    intro s n M hs hn f hR hE
    obtain ⟨n2, rfl⟩ : ∃ n2, n = n2 + 1 := ⟨n - 1, by omega⟩
    rw [qX9_laysTable, if_neg (by decide), if_neg (by decide), if_neg (by decide), if_neg (by decide)]
    unfold pX9_laysTable_189
    rw [iZ_cl (show i0 < 2147483648 by omega), f _ _ (by omega), h13, show (127 : Int32) = iZ ((127 : Nat) : Int) from rfl]
    refine ⟨iZ_in (by omega) (by omega) (by omega), ?_⟩
    refine tg_ok hN hR kb.1 kb.2 (by rw [tbR_35]; exact s0) (by rw [tbR_35]; exact s1) (by rw [tbR_34]; exact d0) (by rw [tbR_34]; exact d1) (by omega) ?_
    rw [tg_ot (r := r) (f := va_up p.2 v s) hVd hk hi tbR_34 tbR_35 (fun u hu => tbR_p hu), otF_up, up_eq]
    obtain ⟨l1, l2⟩ := lo_9 (N := N) (k := r (1 + k)) (by omega) (tbR_V hV) hR (by omega) (by omega)
    rw [lk] at l2
    refine ⟨by rw [iZ_l0, iZ_eq (by omega) (by omega) (by omega) (by omega)]; omega, l1, fun v2 hv2 => ?_⟩
    rw [l2] at hv2
    subst hv2
    have e1 : (i_rm (iZ (otF p.2 (vtT r) k v 3 + s)) (iZ (r 0)) = iZ (k : Int)) = False := by
      rw [iZ_rm (by omega) (by omega) (by omega) (by omega), iZ_eq (by have := tmod_b (x := otF p.2 (vtT r) k v 3 + s) (y := r 0); split at this <;> omega) (by have := tmod_b (x := otF p.2 (vtT r) k v 3 + s) (y := r 0); split at this <;> omega) (by omega) (by omega), Int.tmod_eq_emod_of_nonneg (by omega), mod_hit (by omega) (by omega) (by omega) (by omega)]
      exact eq_false (by omega)
    rw [e1, iZ_add, ← Int.natCast_add, iZ_cl (show 127 + v < 2147483648 by omega), hR _ (by omega), tbR_p (by omega)]
    dsimp only
    rw [up_eq, iZ_s1]
    refine ⟨fun z => z.elim, fun _ => ⟨iZ_in (by omega) (by omega) (by omega), fun M1 h1 => ?_⟩⟩
    have R1 := hR.up (i := 127 + v) (x := ((s + 1 : Nat) : Int))
    rw [tbR_up (by omega)] at R1
    dsimp only at R1
    rw [up_up] at R1
    refine ih (s + 1) n2 M1 (by omega) (by omega) (by rw [h1]; exact f.wi) (by rw [h1]; exact R1) (fun M2 n3 g1 g2 g3 => hE M2 n3 g1 g2 (by omega))
abbrev tbL (r : Nat → Int) (L : List (Nat × Nat)) : (Nat → Int) × (Nat → Int) := tbG (vtT r) (r 31) (r 0) L
theorem lt_back {M0 : gM} {R : gM → Prop} (hN : 500 ≤ N) (hV : Vk r) (hF : Fz (vtT r) (r 0).toNat (3 * r 31).toNat L) (hl : L.length ≤ 30) (hL : Lm M0 b 0 r L) (hE : ∀ M1, Flt b M0 M1 → Rr M1 b (tbR r (tbL r L)) → R M1) : ∀ (j n : Nat) (M : gM), j ≤ L.length → 40 * j + 1 ≤ n → Flt b M0 M → Rr M b (tbR r (tbL r (L.drop j))) → qX9_laysTable N K R n 2 M b (iZ (r 0)) (iZ ((j : Int) - 1)) 0 := by
  have r0 := hV.1
  have r30 := hV.2.1
  have d0 := hV.2.2.2.2.1
  have d1 := hV.2.2.2.2.2.1
  intro j
  induction j with
  | zero =>
    intro n M hj hn f hR
    obtain ⟨n2, rfl⟩ : ∃ n2, n = n2 + 1 := ⟨n - 1, by omega⟩
    rw [qX9_laysTable, if_neg (by decide), if_neg (by decide), if_pos rfl]
    unfold pX9_laysTable_126
    exact ⟨fun _ => hE M f hR, fun z => absurd (by decide) z⟩
  | succ j ih =>
    intro n M hj hn f hR
    obtain ⟨n2, rfl⟩ : ∃ n2, n = n2 + 1 := ⟨n - 1, by omega⟩
    have hj2 : j < L.length := by omega
    rw [qX9_laysTable, if_neg (by decide), if_neg (by decide), if_pos rfl]
    unfold pX9_laysTable_126
    rw [show ((j + 1 : Nat) : Int) - 1 = (j : Int) by omega]
    have c1 : ¬ iZ (j : Int) < 0 := by rw [iZ_l0, iZ_lt (by omega) (by omega) (by omega) (by omega)]; omega
    obtain ⟨l1, l2⟩ := hL j L[j] (List.getElem?_eq_getElem hj2)
    rw [Nat.zero_add] at l1 l2
    have ed := List.drop_eq_getElem_cons hj2
    have hF2 := hF.drop j
    rw [ed] at hF2
    obtain ⟨⟨k1, k2, k3, k4⟩, _⟩ := hF2
    have mm : 1 ≤ r 0 := by omega
    have bb := tbG_b (vt := vtT r) (d := r 31) mm (by omega) (L.drop (j + 1))
    have z0 := tbG_0 (vt := vtT r) (d := r 31) (mm := r 0) k4
    generalize hx : L[j] = x at *
    obtain ⟨k, v⟩ := x
    dsimp only at k1 k2 k3 k4 l1 l2 z0
    generalize hp : tbG (vtT r) (r 31) (r 0) (L.drop (j + 1)) = p at *
    have hR2 : Rr M b (tbR r p) := by rw [← hp]; exact hR
    rw [iZ_cl (show j < 2147483648 by omega), f _ _ (by omega), l2, show (67 : Int32) = iZ ((67 : Nat) : Int) from rfl, iZ_add, ← Int.natCast_add, iZ_cl (show 67 + v < 2147483648 by omega)]
    refine ⟨fun z => absurd z c1, fun _ => ⟨iZ_in (by omega) (by omega) (by omega), iZ_in (by omega) (by omega) (by omega), fun M1 h1 => ?_⟩⟩
    have a0 := Int.emod_nonneg ((v : Int).tdiv (r 31) - otF p.1 (vtT r) k v 3) (show (3 : Int) ≠ 0 by decide)
    have a1 := Int.emod_lt_of_pos ((v : Int).tdiv (r 31) - otF p.1 (vtT r) k v 3) (show (0 : Int) < 3 by decide)
    have b0 := Int.emod_nonneg ((k : Int) - otF p.2 (vtT r) k v 3) (show r 0 ≠ 0 by omega)
    have b1 := Int.emod_lt_of_pos ((k : Int) - otF p.2 (vtT r) k v 3) (show 0 < r 0 by omega)
    obtain ⟨S1, hS1⟩ := Int.eq_ofNat_of_zero_le a0
    obtain ⟨S2, hS2⟩ := Int.eq_ofNat_of_zero_le b0
    have R1 := hR2.up (i := 67 + v) (x := ((0 : Nat) : Int))
    rw [tbR_us (by omega)] at R1
    refine lt_sign (M0 := M0) (S := S1) (p := p) hN hV k1 (by omega) k3 (by omega) l1 (fun u hu => (bb u).1) hS1.symm S1 0 n2 M1 (by omega) (by omega) (by rw [h1]; exact f.wi) (by rw [h1]; exact R1) (fun M2 n3 f2 R2 g2 => ?_)
    refine lt_step (M0 := M0) (S := S2) (p := (va_up p.1 v S1, p.2)) hN hV k1 (by omega) k3 (by omega) l1 (fun u hu => (bb u).2) hS2.symm S2 0 n3 M2 (by omega) (by omega) f2 (by dsimp only; rw [up_id (x := ((0 : Nat) : Int)) z0]; exact R2) (fun M3 n4 f3 R3 g3 => ?_)
    rw [show iZ (j : Int) + -1 = iZ ((j : Int) - 1) by rw [iZ_n1, iZ_add]; rfl]
    refine ih n4 M3 (by omega) (by omega) f3 ?_
    rw [ed, tbL, tbG, hp]
    dsimp only
    rw [hS1, hS2]
    exact R3
/-- the rows filled -/
def lf1 (r : Nat → Int) (u : Nat) (i : Nat) : Int := if i < 37 + u then tbR r (tbL r []) i else r i
def lf2 (r : Nat → Int) (u : Nat) (i : Nat) : Int := if i < 67 + u ∨ (127 ≤ i ∧ i < 127 + u) then tbR r (tbL r []) i else r i
theorem lt_fill {M0 : gM} {R : gM → Prop} (hN : 500 ≤ N) (hV : Vk r) (hF : Fz (vtT r) (r 0).toNat (3 * r 31).toNat L) (hl : (L.length : Int) = r 0) (hL : Lm M0 b 0 r L) (hE : ∀ M1, Flt b M0 M1 → Rr M1 b (tbR r (tbL r L)) → R M1) : ∀ (e u n : Nat) (M : gM), u + e = 60 → e + 1300 ≤ n → Flt b M0 M → Rr M b (lf2 r u) → qX9_laysTable N K R n 1 M b (iZ (r 0)) (iZ u) 0 := by
  have r0 := hV.1
  have r30 := hV.2.1
  intro e
  induction e with
  | zero =>
    intro u n M hu hn f hR
    obtain ⟨n2, rfl⟩ : ∃ n2, n = n2 + 1 := ⟨n - 1, by omega⟩
    rw [qX9_laysTable, if_neg (by decide), if_pos rfl]
    unfold pX9_laysTable_90
    have c1 : (60 : Int32) ≤ iZ (u : Int) := by rw [iZ_l60, iZ_le (by omega) (by omega) (by omega) (by omega)]; omega
    refine ⟨fun _ => ?_, fun z => absurd c1 z⟩
    rw [iZ_l1, iZ_sub]
    have q := lt_back (N := N) (K := K) (R := R) hN hV hF (by omega) hL hE L.length n2 M (Nat.le_refl _) (by omega) f (by
      rw [List.drop_length]
      intro i hi
      rw [hR i hi]
      unfold lf2
      by_cases c : i < 67 + u ∨ (127 ≤ i ∧ i < 127 + u)
      · rw [if_pos c]
      · rw [if_neg c, tbR_lo (by omega)])
    rw [hl] at q
    exact q
  | succ e ih =>
    intro u n M hu hn f hR
    obtain ⟨n2, rfl⟩ : ∃ n2, n = n2 + 1 := ⟨n - 1, by omega⟩
    rw [qX9_laysTable, if_neg (by decide), if_pos rfl]
    unfold pX9_laysTable_90
    have c1 : ¬ (60 : Int32) ≤ iZ (u : Int) := by rw [iZ_l60, iZ_le (by omega) (by omega) (by omega) (by omega)]; omega
    rw [show (67 : Int32) = iZ ((67 : Nat) : Int) from rfl, show (127 : Int32) = iZ ((127 : Nat) : Int) from rfl, iZ_add, iZ_add, ← Int.natCast_add, ← Int.natCast_add, iZ_cl (show 67 + u < 2147483648 by omega), iZ_cl (show 127 + u < 2147483648 by omega), iZ_s1]
    refine ⟨fun z => absurd z c1, fun _ => ⟨iZ_in (by omega) (by omega) (by omega), fun M1 h1 => ⟨iZ_in (by omega) (by omega) (by omega), fun M2 h2 => ?_⟩⟩⟩
    refine ih (u + 1) n2 M2 (by omega) (by omega) (by rw [h2, h1]; exact f.wi.wi) (fun i hi => ?_)
    rw [h2, mi_wi, h1, mi_wi]
    by_cases c2 : i = 127 + u
    · rw [if_pos ⟨rfl, c2⟩]
      unfold lf2
      rw [if_pos (by omega), c2, tbR_p (by omega)]; rfl
    · by_cases c3 : i = 67 + u
      · rw [if_neg (by omega), if_pos ⟨rfl, c3⟩]
        unfold lf2
        rw [if_pos (by omega), c3, tbR_s (by omega)]; rfl
      · rw [if_neg (by omega), if_neg (by omega), hR i hi]
        unfold lf2
        by_cases c4 : i < 67 + u ∨ (127 ≤ i ∧ i < 127 + u)
        · rw [if_pos c4, if_pos (by omega)]
        · rw [if_neg c4, if_neg (by omega)]
theorem lt_keys {M0 : gM} {R : gM → Prop} (hN : 500 ≤ N) (hV : Vk r) (hF : Fz (vtT r) (r 0).toNat (3 * r 31).toNat L) (hl : (L.length : Int) = r 0) (hL : Lm M0 b 0 r L) (hE : ∀ M1, Flt b M0 M1 → Rr M1 b (tbR r (tbL r L)) → R M1) : ∀ (e u n : Nat) (M : gM), u + e = 30 → e + 1400 ≤ n → Flt b M0 M → Rr M b (lf1 r u) → qX9_laysTable N K R n 0 M b (iZ (r 0)) (iZ u) 0 := by
  have r0 := hV.1
  have r30 := hV.2.1
  intro e
  induction e with
  | zero =>
    intro u n M hu hn f hR
    obtain ⟨n2, rfl⟩ : ∃ n2, n = n2 + 1 := ⟨n - 1, by omega⟩
    rw [qX9_laysTable, if_pos rfl]
    unfold pX9_laysTable_53
    have c1 : (30 : Int32) ≤ iZ (u : Int) := by rw [iZ_l30, iZ_le (by omega) (by omega) (by omega) (by omega)]; omega
    refine ⟨fun _ => ?_, fun z => absurd c1 z⟩
    refine lt_fill hN hV hF hl hL hE 60 0 n2 M (by omega) (by omega) f (fun i hi => ?_)
    rw [hR i hi]
    unfold lf1 lf2
    by_cases c : i < 37 + u
    · rw [if_pos c, if_pos (by omega)]
    · rw [if_neg c, if_neg (by omega)]
  | succ e ih =>
    intro u n M hu hn f hR
    obtain ⟨n2, rfl⟩ : ∃ n2, n = n2 + 1 := ⟨n - 1, by omega⟩
    rw [qX9_laysTable, if_pos rfl]
    unfold pX9_laysTable_53
    have c1 : ¬ (30 : Int32) ≤ iZ (u : Int) := by rw [iZ_l30, iZ_le (by omega) (by omega) (by omega) (by omega)]; omega
    have c2 : (iZ (r 0) ≤ iZ (u : Int)) = (r 0 ≤ u) := by rw [iZ_le (by omega) (by omega) (by omega) (by omega)]
    rw [c2, show (37 : Int32) = iZ ((37 : Nat) : Int) from rfl, iZ_add, ← Int.natCast_add, iZ_cl (show 37 + u < 2147483648 by omega), iZ_s1]
    have next : ∀ (M1 : gM) (x : Int), x = tbR r (tbL r []) (37 + u) → M1 = g_wi M (b + 2) (37 + u) (iZ x) → qX9_laysTable N K R n2 0 M1 b (iZ (r 0)) (iZ ((u + 1 : Nat) : Int)) 0 := fun M1 x hx h1 => by
      refine ih (u + 1) n2 M1 (by omega) (by omega) (by rw [h1]; exact f.wi) (fun i hi => ?_)
      rw [h1, mi_wi]
      by_cases c3 : i = 37 + u
      · rw [if_pos ⟨rfl, c3⟩, hx]
        unfold lf1
        rw [if_pos (by omega), c3]
      · rw [if_neg (by omega), hR i hi]
        unfold lf1
        by_cases c4 : i < 37 + u
        · rw [if_pos c4, if_pos (by omega)]
        · rw [if_neg c4, if_neg (by omega)]
    refine ⟨fun z => absurd z c1, fun _ => ⟨fun z => ⟨iZ_in (by omega) (by omega) (by omega), fun M1 h1 => ?_⟩, fun z => ?_⟩⟩
    · exact next M1 0 (by rw [tbR_k (by omega), if_neg (by omega)]) h1
    · obtain ⟨k1, k2⟩ := ka_9 (i := u) hR (by omega)
      refine ⟨k1, fun v1 hv1 => ⟨iZ_in (by omega) (by omega) (by omega), fun M1 h1 => ?_⟩⟩
      rw [k2] at hv1
      have e1 : lf1 r u (1 + u) = r (1 + u) := by unfold lf1; rw [if_pos (by omega), tbR_lo (by omega)]
      rw [e1] at hv1
      rw [hv1] at h1
      exact next M1 (r (1 + u)) (by rw [tbR_k (by omega), if_pos (by omega)]) h1
/-- the reference has laid a table -/
theorem lt_ok {M : gM} {R : gM → Prop} (hN : 2000 ≤ N) (hV : Vk r) (hR : Rr M b r) (hF : Fz (vtT r) (r 0).toNat (3 * r 31).toNat L) (hl : (L.length : Int) = r 0) (hL : Lm M b 0 r L) (hE : ∀ M1, Flt b M M1 → Rr M1 b (tbR r (tbL r L)) → R M1) : pX9_laysTable N K M b R := by
  unfold pX9_laysTable pX9_laysTable_0
  intro M1 h1 M2 h2 M3 h3 M4 h4
  rw [show g_mi M1 (b + 2) 31 = iZ (r 31) by rw [h1, mi_wi, if_neg (by omega)]; exact hR 31 (by omega)] at h2
  rw [show g_mi M2 (b + 2) 32 = iZ (r 32) by rw [h2, mi_wi, if_neg (by omega), h1, mi_wi, if_neg (by omega)]; exact hR 32 (by omega)] at h3
  rw [hR 0 (by omega)] at h4 ⊢
  refine lt_keys (M0 := M) (by omega) hV hF hl hL hE 30 0 N M4 (by omega) (by omega) (by rw [h4, h3, h2, h1]; exact Flt.wi (Flt.wi (Flt.wi (Flt.wi (fun _ _ _ => rfl))))) (fun i hi => ?_)
  rw [h4, mi_wi, h3, mi_wi, h2, mi_wi, h1, mi_wi]
  unfold lf1
  by_cases c6 : i = 36
  · rw [if_pos ⟨rfl, c6⟩, if_pos (by omega), c6]; rfl
  · by_cases c5 : i = 35
    · rw [if_neg (by omega), if_pos ⟨rfl, c5⟩, if_pos (by omega), c5]; rfl
    · by_cases c4 : i = 34
      · rw [if_neg (by omega), if_neg (by omega), if_pos ⟨rfl, c4⟩, if_pos (by omega), c4]; rfl
      · by_cases c3 : i = 33
        · rw [if_neg (by omega), if_neg (by omega), if_neg (by omega), if_pos ⟨rfl, c3⟩, if_pos (by omega), c3]; rfl
        · rw [if_neg (by omega), if_neg (by omega), if_neg (by omega), if_neg (by omega), hR i hi]
          by_cases c : i < 37 + 0
          · rw [if_pos c, tbR_lo (by omega)]
          · rw [if_neg c]
end LT
