/-! What is kept between calls, both programs. -/
abbrev LWs := Nat → List (Nat × Cl)
def Vr (r : Nat → Int) : Prop := Vk r ∧ Vt r ∧ (0 ≤ r 200 ∧ r 200 ≤ 10) ∧ (0 ≤ r 201 ∧ r 201 ≤ 9) ∧ (0 ≤ r 202 ∧ r 202 ≤ 6) ∧ (∀ i : Nat, (i : Int) < r 202 → (0 ≤ r (188 + 2 * i) ∧ r (188 + 2 * i) ≤ 59) ∧ 0 ≤ r (188 + 2 * i + 1) ∧ r (188 + 2 * i + 1) ≤ 1) ∧ (0 ≤ r 203 ∧ r 203 ≤ 6) ∧ -1 ≤ r 204 ∧ r 204 < r 203
theorem Vr.k {r : Nat → Int} (h : Vr r) : Vk r := h.1
theorem Vr.t {r : Nat → Int} (h : Vr r) : Vt r := h.2.1
theorem Vr.s {r : Nat → Int} (h : Vr r) : 0 ≤ r 200 ∧ r 200 ≤ 10 := h.2.2.1
theorem Vr.md {r : Nat → Int} (h : Vr r) : 0 ≤ r 201 ∧ r 201 ≤ 9 := h.2.2.2.1
theorem Vr.m {r : Nat → Int} (h : Vr r) : Vm r := by have := h.md; unfold Vm bd9; omega
theorem Vr.n {r : Nat → Int} (h : Vr r) : 0 ≤ r 202 ∧ r 202 ≤ 6 := h.2.2.2.2.1
theorem Vr.sn {r : Nat → Int} (h : Vr r) : ∀ i : Nat, (i : Int) < r 202 → (0 ≤ r (188 + 2 * i) ∧ r (188 + 2 * i) ≤ 59) ∧ 0 ≤ r (188 + 2 * i + 1) ∧ r (188 + 2 * i + 1) ≤ 1 := h.2.2.2.2.2.1
theorem Vr.l {r : Nat → Int} (h : Vr r) : 0 ≤ r 203 ∧ r 203 ≤ 6 := h.2.2.2.2.2.2.1
theorem Vr.f {r : Nat → Int} (h : Vr r) : -1 ≤ r 204 ∧ r 204 < r 203 := h.2.2.2.2.2.2.2
theorem Vr.up {r r2 : Nat → Int} (h : Vr r) (hk : Vk r2) (ht : Vt r2) (e : ∀ i, 188 ≤ i → i < 205 → r2 i = r i) : Vr r2 := by
  refine ⟨hk, ht, ?_, ?_, ?_, fun i hi => ?_, ?_, ?_⟩
  · rw [e 200 (by omega) (by omega)]; exact h.s
  · rw [e 201 (by omega) (by omega)]; exact h.md
  · rw [e 202 (by omega) (by omega)]; exact h.n
  · rw [e 202 (by omega) (by omega)] at hi
    have := h.n
    rw [e _ (by omega) (by omega), e _ (by omega) (by omega)]; exact h.sn i hi
  · rw [e 203 (by omega) (by omega)]; exact h.l
  · rw [e 203 (by omega) (by omega), e 204 (by omega) (by omega)]; exact h.f
def VL (r : Nat → Int) (lw : LWs) : Prop := ∀ t : Nat, (t : Int) < r 203 → Lr r t (lw t) ∧ ∀ c ∈ lw t, Clb false c.2
theorem VL.up {r r2 : Nat → Int} {lw : LWs} (hv : Vr r) (h : VL r lw) (e : ∀ i, 203 ≤ i → i < 5812 → r2 i = r i) : VL r2 lw := fun t ht => by
  have := hv.l
  rw [e 203 (by omega) (by omega)] at ht
  obtain ⟨a, c⟩ := h t ht
  exact ⟨a.cg (by omega) (fun i h1 h2 => e i (by omega) h2), c⟩
def lwA (lw : LWs) (x : Int) : List (Nat × Cl) := if x < 0 then [] else lw x.toNat
theorem FL_of {r : Nat → Int} {lw : LWs} (hv : Vr r) (h : VL r lw) : FL r (lwA lw (r 204)) := by
  have := hv.f
  have := hv.l
  unfold lwA
  by_cases c : r 204 < 0
  · rw [if_pos c]; exact Or.inl ⟨by omega, rfl⟩
  · rw [if_neg c]
    exact Or.inr ⟨(r 204).toNat, by omega, by omega, (h (r 204).toNat (by omega)).1⟩
def TL (M : gM) (x : Nat) (cs : List (Nat × Cl)) : Prop := TxO M x ∧ Te M x (kl M (x + 1)) (kl M (x + 5)) Wl cs
theorem TL.keep {M M1 : gM} {x : Nat} {cs : List (Nat × Cl)} (h : TL M x cs) (hs : Sl M M1) (k : ∀ c, x ≤ c → c ≤ x + 6 → g_mi M1 c = g_mi M c) : TL M1 x cs := by
  have e2 : ∀ c, kl M1 c = kl M c := fun c => by unfold kl; rw [hs.1]
  obtain ⟨a1, a2⟩ := h
  unfold TL TxO at *
  rw [e2, e2]
  exact ⟨Tx.sl hs a1, a2.keep k⟩
def CW (M : gM) (lo w : Nat) (r : Nat → Int) (lw : LWs) : Prop := RS M (w + 1) r ∧ g_mi M w 4 = iZ (r 202) ∧ g_mi M w 5 = iZ (r 203) ∧ g_mi M w 6 = iZ (r 204) ∧ (∀ i : Nat, (i : Int) < r 202 → g_mi M (w + 8) i = iZ (r (188 + 2 * i)) ∧ g_mi M (w + 9) i = iZ (r (188 + 2 * i + 1))) ∧ ∀ t : Nat, (t : Int) < r 203 → ∃ x, lo ≤ x ∧ g_mr M (w + 10) t = some x ∧ TL M x (lw t)
theorem CW.keep {M M1 : gM} {lo w : Nat} {r : Nat → Int} {lw : LWs} (h : CW M lo w r lw) (hs : Sl M M1) (k1 : ∀ c, w ≤ c → c ≤ w + 9 → g_mi M1 c = g_mi M c) (k2 : ∀ c, lo ≤ c → g_mi M1 c = g_mi M c) : CW M1 lo w r lw := by
  obtain ⟨a1, a2, a3, a4, a5, a6⟩ := h
  refine ⟨a1.keep (fun c q1 q2 => k1 c (by omega) (by omega)), ?_, ?_, ?_, fun i hi => ?_, fun t ht => ?_⟩
  · rw [k1 w (by omega) (by omega)]; exact a2
  · rw [k1 w (by omega) (by omega)]; exact a3
  · rw [k1 w (by omega) (by omega)]; exact a4
  · rw [k1 (w + 8) (by omega) (by omega), k1 (w + 9) (by omega) (by omega)]; exact a5 i hi
  · obtain ⟨x, x1, x2, x3⟩ := a6 t ht
    exact ⟨x, x1, by rw [hs.2.1]; exact x2, x3.keep hs (fun c q1 q2 => k2 c (by omega))⟩
/-- another State in the same Whole -/
theorem CW.st {M M1 : gM} {lo w : Nat} {r r2 : Nat → Int} {lw : LWs} (hv : Vr r) (h : CW M lo w r lw) (hs : Sl M M1) (hS : RS M1 (w + 1) r2) (e : ∀ i, 188 ≤ i → i < 205 → r2 i = r i) (k0 : g_mi M1 w = g_mi M w) (k1 : ∀ c, w + 8 ≤ c → c ≤ w + 9 → g_mi M1 c = g_mi M c) (k2 : ∀ c, lo ≤ c → g_mi M1 c = g_mi M c) : CW M1 lo w r2 lw := by
  obtain ⟨a1, a2, a3, a4, a5, a6⟩ := h
  have := hv.n
  refine ⟨hS, ?_, ?_, ?_, fun i hi => ?_, fun t ht => ?_⟩
  · rw [k0, e 202 (by omega) (by omega)]; exact a2
  · rw [k0, e 203 (by omega) (by omega)]; exact a3
  · rw [k0, e 204 (by omega) (by omega)]; exact a4
  · rw [e 202 (by omega) (by omega)] at hi
    rw [k1 (w + 8) (by omega) (by omega), k1 (w + 9) (by omega) (by omega), e _ (by omega) (by omega), e _ (by omega) (by omega)]; exact a5 i hi
  · rw [e 203 (by omega) (by omega)] at ht
    obtain ⟨x, x1, x2, x3⟩ := a6 t ht
    exact ⟨x, x1, by rw [hs.2.1]; exact x2, x3.keep hs (fun c q1 q2 => k2 c (by omega))⟩
theorem FC_of {M : gM} {A : Nat} {r : Nat → Int} {lw : LWs} {x : Int} (hv : Vr r) (hl : VL r lw) (h : CW M (A + 353) (A + 1) r lw) (hn : TL M (A + 296) []) (x0 : -1 ≤ x) (x1 : x < r 203) : FC M A (iZ x) (lwA lw x) := by
  have l6 := hv.l
  obtain ⟨a1, a2, a3, a4, a5, a6⟩ := h
  have c1 : (iZ x < 0) = (x < 0) := by rw [iZ_l0, iZ_lt (by omega) (by omega) (by omega) (by omega)]
  have c2 : (g_mi M (A + 1) 5 ≤ iZ x) = (r 203 ≤ x) := by rw [a3, iZ_le (by omega) (by omega) (by omega) (by omega)]
  by_cases c : x < 0
  · have ea : aLaw M A (iZ x) = A + 296 := by unfold aLaw; rw [if_pos (by rw [c1]; exact c)]
    unfold FC EX8_lawNumbered lwA
    rw [ea, if_pos c]
    exact ⟨⟨fun q => absurd (by rw [c1]; exact c) q, hn.1⟩, hn.2, by omega, fun y hy => (by cases hy)⟩
  · obtain ⟨t, y1, y2, y3⟩ := a6 x.toNat (by omega)
    have ea : aLaw M A (iZ x) = t := by
      unfold aLaw
      rw [if_neg (by rw [c1]; exact c), if_neg (by rw [c2]; omega), iZ_nat (by omega) (by omega), y2]
      rfl
    unfold FC EX8_lawNumbered lwA
    rw [ea, if_neg c]
    exact ⟨⟨fun _ _ => iZ_in (by omega) (by omega) (by omega), y3.1⟩, y3.2, by omega, (hl x.toNat (by omega)).2⟩
section INV
variable {A b : Nat} {r : Nat → Int} {lw : LWs} {H : List ((Nat → Int) × Int)} {im : Nat → Option (Nat → Int)} {ilw : Nat → LWs} {bt : Nat → Int} {ln : Nat} {fr dr ms : Nat → Int32}
def cL (M : gM) (A : Nat) : Prop := LwO M (A + 1 + 10) ∧ LwO M (A + 307 + 10) ∧ LwO M (A + 318 + 10)
def cI (M : gM) (A : Nat) (im : Nat → Option (Nat → Int)) (ilw : Nat → LWs) : Prop := cL M A ∧ ∀ k, k < 2 → g_mi M (A + 307 + 11 * k) 7 = iB (im k).isSome ∧ ∀ q, im k = some q → CW M (A + 353) (A + 307 + 11 * k) q (ilw k)
def cD (M : gM) (A : Nat) (dr : Nat → Int32) : Prop := ∀ i, i < 40 → g_mi M (A + 303) i = dr i
def cM (M : gM) (A : Nat) (ms : Nat → Int32) : Prop := g_mi M A 16 = ms 0 ∧ g_mi M (A + 282) 6 = ms 1 ∧ g_mi M A 15 = ms 2 ∧ g_mi M A 14 = ms 3
def cQ (M : gM) (A : Nat) : Prop := ∃ f : Nat, f < 17 ∧ g_mi M (A + 135) 2 = iZ f
def cH (M : gM) (A : Nat) (H : List ((Nat → Int) × Int)) : Prop := ∃ f, RHf M (A + 13) f H
/-- the class's part -/
def IC (M : gM) (A : Nat) (r : Nat → Int) (lw : LWs) (H : List ((Nat → Int) × Int)) (im : Nat → Option (Nat → Int)) (ilw : Nat → LWs) (bt : Nat → Int) (ln : Nat) (fr dr ms : Nat → Int32) : Prop := Ph M A ∧ CW M (A + 353) (A + 1) r lw ∧ TL M (A + 296) [] ∧ cH M A H ∧ cQ M A ∧ cI M A im ilw ∧ Cb M (A + 282) bt ln ∧ Rfs M A fr ∧ cD M A dr ∧ cM M A ms
def rI (M : gM) (b : Nat) (im : Nat → Option (Nat → Int)) : Prop := ∀ k, k < 2 → g_mi M (b + 4) k = iB (im k).isSome ∧ ∀ q, im k = some q → ∀ i, i < 5812 → g_mi M (b + 3) (5812 * k + i) = iZ (q i)
def rD (M : gM) (b : Nat) (dr : Nat → Int32) : Prop := (g_mi M b 48 = 0 ∧ ∀ i, i < 40 → dr i = -1) ∨ (g_mi M b 48 = 1 ∧ ∀ i, i < 40 → g_mi M (b + 23) i = dr i)
def rM (M : gM) (b : Nat) (ms : Nat → Int32) : Prop := g_mi M b 0 = ms 0 ∧ g_mi M b 14 = ms 1 ∧ g_mi M b 6 = ms 2 ∧ g_mi M b 40 = ms 3
/-- the reference's part -/
def IR (M : gM) (b : Nat) (r : Nat → Int) (H : List ((Nat → Int) × Int)) (im : Nat → Option (Nat → Int)) (bt : Nat → Int) (ln : Nat) (fr dr ms : Nat → Int32) : Prop := Mo M b ∧ Rr M b r ∧ RLh M b H ∧ rI M b im ∧ (Mb M b bt ln ∧ g_mi M b 13 = iZ ln ∧ Vw M b) ∧ Rfm M b fr ∧ rD M b dr ∧ rM M b ms
def PVs (r : Nat → Int) (lw : LWs) (H : List ((Nat → Int) × Int)) (im : Nat → Option (Nat → Int)) (ilw : Nat → LWs) : Prop := Vr r ∧ VL r lw ∧ (∀ e ∈ H, (Vk e.1 ∧ Vt e.1 ∧ 0 ≤ e.2 ∧ e.2 ≤ 4) ∧ e.1 200 = r 200 ∧ e.1 201 = r 201) ∧ ∀ k q, k < 2 → im k = some q → Vr q ∧ VL q (ilw k)
def INV (A : Nat) (M : gM) : Prop := ∃ r lw H im ilw bt ln fr dr ms, PVs r lw H im ilw ∧ IC M A r lw H im ilw bt ln fr dr ms ∧ IR M (A + 329) r H im bt ln fr dr ms
/-- the cells of the class that are kept -/
def pcA (A c j : Nat) : Prop := (c = A ∧ 14 ≤ j ∧ j ≤ 16) ∨ (A + 1 ≤ c ∧ c ≤ A + 134) ∨ (c = A + 135 ∧ j = 2) ∨ (c = A + 282 ∧ (j = 5 ∨ j = 6)) ∨ c = A + 283 ∨ (A + 296 ≤ c ∧ c ≤ A + 304) ∨ (A + 307 ≤ c ∧ c ≤ A + 328) ∨ A + 353 ≤ c
theorem LwO.sl {M M1 : gM} {w : Nat} (h : LwO M w) (hs : Sl M M1) : LwO M1 w := fun i v hv => by
  rw [hs.2.1] at hv
  rw [hs.1]
  exact h i v hv
theorem cI.keep {M M1 : gM} (h : cI M A im ilw) (hs : Sl M M1) (k1 : ∀ c, A + 307 ≤ c → c ≤ A + 328 → g_mi M1 c = g_mi M c) (k2 : ∀ c, A + 353 ≤ c → g_mi M1 c = g_mi M c) : cI M1 A im ilw := by
  obtain ⟨⟨l1, l2, l3⟩, h2⟩ := h
  refine ⟨⟨l1.sl hs, l2.sl hs, l3.sl hs⟩, fun k hk => ?_⟩
  obtain ⟨a1, a2⟩ := h2 k hk
  exact ⟨by rw [k1 _ (by omega) (by omega)]; exact a1, fun q hq => (a2 q hq).keep hs (fun c q1 q2 => k1 c (by omega) (by omega)) k2⟩
theorem cH.keep {M M1 : gM} (h : cH M A H) (k : ∀ c, A + 13 ≤ c → c ≤ A + 134 → g_mi M1 c = g_mi M c) : cH M1 A H := by
  obtain ⟨f, hf⟩ := h
  exact ⟨f, hf.keep (fun c q1 q2 => k c q1 (by omega))⟩
theorem IC.kee {M M1 : gM} (h : IC M A r lw H im ilw bt ln fr dr ms) (hs : Sl M M1) (k : ∀ c j, pcA A c j → g_mi M1 c j = g_mi M c j) : IC M1 A r lw H im ilw bt ln fr dr ms := by
  have k1 : ∀ c, ((A + 1 ≤ c ∧ c ≤ A + 134) ∨ c = A + 283 ∨ (A + 296 ≤ c ∧ c ≤ A + 304) ∨ (A + 307 ≤ c ∧ c ≤ A + 328) ∨ A + 353 ≤ c) → g_mi M1 c = g_mi M c := fun c q => by funext j; exact k c j (by unfold pcA; omega)
  obtain ⟨a1, a2, a3, a4, ⟨f, f1, f2⟩, a6, a7, a8, a9, a10, a11, a12, a13⟩ := h
  refine ⟨Ph.sl hs a1, a2.keep hs (fun c q1 q2 => k1 c (by omega)) (fun c q => k1 c (by omega)), a3.keep hs (fun c q1 q2 => k1 c (by omega)), a4.keep (fun c q1 q2 => k1 c (by omega)), ⟨f, f1, by rw [k _ _ (by unfold pcA; omega)]; exact f2⟩, a6.keep hs (fun c q1 q2 => k1 c (by omega)) (fun c q => k1 c (by omega)), ?_, fun i hi => by rw [k1 _ (by omega)]; exact a8 i hi, fun i hi => by rw [k1 _ (by omega)]; exact a9 i hi, ?_, ?_, ?_, ?_⟩
  · unfold Cb at a7 ⊢
    rw [k (A + 282) 5 (by unfold pcA; omega), k1 (A + 282 + 1) (by omega)]
    exact a7
  · rw [k _ _ (by unfold pcA; omega)]; exact a10
  · rw [k _ _ (by unfold pcA; omega)]; exact a11
  · rw [k _ _ (by unfold pcA; omega)]; exact a12
  · rw [k _ _ (by unfold pcA; omega)]; exact a13
/-- the cells of the reference that are kept -/
def prB (b c j : Nat) : Prop := (c = b ∧ (j = 0 ∨ j = 6 ∨ j = 13 ∨ j = 14 ∨ j = 38 ∨ j = 40 ∨ j = 48)) ∨ c = b + 1 ∨ (c = b + 2 ∧ j < 5812) ∨ c = b + 3 ∨ c = b + 4 ∨ c = b + 6 ∨ c = b + 7 ∨ c = b + 19 ∨ c = b + 23
theorem IR.kee {M M1 : gM} (h : IR M b r H im bt ln fr dr ms) (hs : Sl M M1) (k : ∀ c j, prB b c j → g_mi M1 c j = g_mi M c j) : IR M1 b r H im bt ln fr dr ms := by
  have k1 : ∀ c, (c = b + 1 ∨ c = b + 3 ∨ c = b + 4 ∨ c = b + 6 ∨ c = b + 7 ∨ c = b + 19 ∨ c = b + 23) → g_mi M1 c = g_mi M c := fun c q => by funext j; exact k c j (by unfold prB; omega)
  have k0 : ∀ j, (j = 0 ∨ j = 6 ∨ j = 13 ∨ j = 14 ∨ j = 38 ∨ j = 40 ∨ j = 48) → g_mi M1 b j = g_mi M b j := fun j q => k b j (by unfold prB; omega)
  obtain ⟨a1, a2, a3, a4, ⟨a5, a6, a7⟩, a8, a9, a10, a11, a12, a13⟩ := h
  refine ⟨Mo.sl hs a1, ?_, a3.keep (k0 38 (by omega)) (k1 _ (by omega)), ?_, ⟨?_, by rw [k0 13 (by omega)]; exact a6, ?_⟩, ?_, ?_, by rw [k0 0 (by omega)]; exact a10, by rw [k0 14 (by omega)]; exact a11, by rw [k0 6 (by omega)]; exact a12, by rw [k0 40 (by omega)]; exact a13⟩
  · intro i hi
    rw [k (b + 2) i (by unfold prB; omega)]; exact a2 i hi
  · unfold rI at a4 ⊢
    rw [k1 (b + 4) (by omega), k1 (b + 3) (by omega)]; exact a4
  · unfold Mb at a5 ⊢
    rw [k1 (b + 7) (by omega)]; exact a5
  · unfold Vw at a7 ⊢
    rw [k1 (b + 6) (by omega)]; exact a7
  · unfold Rfm at a8 ⊢
    rw [k1 (b + 1) (by omega)]; exact a8
  · unfold rD at a9 ⊢
    rw [k0 48 (by omega), k1 (b + 23) (by omega)]; exact a9
/-- the class keeps the reference's cells, the reference those of the class -/
def Kp9 (A : Nat) (M M1 : gM) : Prop := ∀ c, A + 329 ≤ c → c ≤ A + 352 → g_mi M1 c = g_mi M c
def Kp8 (A : Nat) (M M1 : gM) : Prop := ∀ c, (c < A + 329 ∨ A + 352 < c) → g_mi M1 c = g_mi M c
theorem IR.k9 {M M1 : gM} (h : IR M (A + 329) r H im bt ln fr dr ms) (hs : Sl M M1) (k : Kp9 A M M1) : IR M1 (A + 329) r H im bt ln fr dr ms := h.kee hs (fun c j q => by unfold prB at q; rw [k c (by omega) (by omega)])
theorem IC.k8 {M M1 : gM} (h : IC M A r lw H im ilw bt ln fr dr ms) (hs : Sl M M1) (k : Kp8 A M M1) : IC M1 A r lw H im ilw bt ln fr dr ms := h.kee hs (fun c j q => by unfold pcA at q; rw [k c (by omega)])
end INV
