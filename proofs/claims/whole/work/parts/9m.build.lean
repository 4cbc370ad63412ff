/-! build, both programs. -/
/-- a State of the class shows the row r: all of it -/
def RS (M : gM) (st : Nat) (r : Nat → Int) : Prop := Rk M st r ∧ g_mi M (st + 2) 1 = iZ (r 200) ∧ g_mi M (st + 2) 2 = iZ (r 201) ∧ Rt M (st + 3) r
theorem RS.keep {M M1 : gM} {st : Nat} {r : Nat → Int} (h : RS M st r) (f : ∀ c, st ≤ c → c ≤ st + 6 → g_mi M1 c = g_mi M c) : RS M1 st r := by
  unfold RS Rk Rt at h ⊢
  rw [f st (by omega) (by omega), f (st + 1) (by omega) (by omega), f (st + 2) (by omega) (by omega), f (st + 3) (by omega) (by omega), f (st + 3 + 1) (by omega) (by omega), f (st + 3 + 2) (by omega) (by omega), f (st + 3 + 3) (by omega) (by omega)]
  exact h
theorem FC.keep {M M1 : gM} {A : Nat} {x : Int32} {cs : List (Nat × Cl)} (h : FC M A x cs) (hs : Sl M M1) (h5 : g_mi M1 (A + 1) 5 = g_mi M (A + 1) 5) (ht : ∀ c, aLaw M A x ≤ c → c ≤ aLaw M A x + 6 → g_mi M1 c = g_mi M c) : FC M1 A x cs := by
  have e1 : aLaw M1 A x = aLaw M A x := by unfold aLaw; rw [hs.2.1, h5]
  have e2 : ∀ c, kl M1 c = kl M c := fun c => by unfold kl; rw [hs.1]
  obtain ⟨a1, a2, a3, a4⟩ := h
  unfold FC EX8_lawNumbered TxO at *
  rw [e1, e2, e2, h5]
  exact ⟨⟨a1.1, Tx.sl hs a1.2⟩, a2.keep ht, a3, a4⟩
theorem Lr.cg {r r2 : Nat → Int} {t : Nat} {cs : List (Nat × Cl)} (ht : t < 6) (h : ∀ i, 204 ≤ i → i < 5812 → r2 i = r i) (e : Lr r t cs) : Lr r2 t cs := by
  obtain ⟨cd, vl, T, h1, h2, h3, h4, h5⟩ := e
  refine ⟨cd, vl, T, h1, h2, by rw [h _ (by omega) (by omega)]; exact h3, fun i hi => ?_, h5⟩
  rw [h _ (by omega) (by omega), h _ (by omega) (by omega)]
  exact h4 i hi
theorem FL.cg {r r2 : Nat → Int} {cs : List (Nat × Cl)} (h : ∀ i, 204 ≤ i → i < 5812 → r2 i = r i) (e : FL r cs) : FL r2 cs := by
  rcases e with ⟨e1, e2⟩ | ⟨t, t6, e1, e2⟩
  · exact Or.inl ⟨by rw [h _ (by omega) (by omega)]; exact e1, e2⟩
  · exact Or.inr ⟨t, t6, by rw [h _ (by omega) (by omega)]; exact e1, e2.cg t6 h⟩
theorem pelR_cg {r r2 : Nat → Int} {s : Int} {cs : List (Nat × Cl)} (h30 : r 0 ≤ 30) (h : ∀ i, i ≤ 31 → r2 i = r i) (h1 : r2 201 = r 201) (h2 : r2 187 = r 187) : pelR cs r2 s = pelR cs r s := by
  unfold pelR
  rw [h 0 (by omega), h 31 (by omega)]
  refine pel_cg (fun k i hk => ?_) (fun v => ?_) _ _
  · unfold vtR; rw [h (1 + k) (by omega)]
  · unfold rkF
    have : dg r2 v s (r2 31) = dg r v s (r 31) := by
      unfold dg
      rw [h 0 (by omega), h 31 (by omega)]
      exact cnt_congr (fun i hi => by rw [h (1 + i) (by omega)])
    rw [this, h 31 (by omega), h1, h2]
def bdI (r : Nat → Int) : Nat → Nat → Option Nat
  | 0, _ => none
  | e + 1, i => if coN r ((r 32 + i) % 256) (r 31) = 0 then some i else bdI r e (i + 1)
def bdR (cs : List (Nat × Cl)) (r : Nat → Int) (s : Int) : Nat → Int := va_up (tbR (va_up r 32 s) (tbL (va_up r 32 s) (pelR cs (va_up r 32 s) s))) 187 (if 999 < r 187 + 1 then 999 else r 187 + 1)
def bdB (cs : List (Nat × Cl)) (r : Nat → Int) : Option Nat → Int × (Nat → Int)
  | none => (-3, r)
  | some i => (i, bdR cs r ((r 32 + i) % 256))
def bdA (cs : List (Nat × Cl)) (r : Nat → Int) : Int × (Nat → Int) := bdB cs r (bdI r 256 0)
section BDR
variable {cs : List (Nat × Cl)} {r : Nat → Int} {s : Int}
theorem bdR_lo {i : Nat} (h : i < 32 ∨ 188 ≤ i) : bdR cs r s i = r i := by
  unfold bdR
  rw [up_ne (by omega), tbR_lo (by omega), up_ne (by omega)]
theorem bdR_32 : bdR cs r s 32 = s := by
  unfold bdR
  rw [up_ne (by omega), tbR_lo (by omega), up_eq]
theorem bdR_187 : bdR cs r s 187 = if 999 < r 187 + 1 then 999 else r 187 + 1 := by
  unfold bdR
  rw [up_eq]
theorem up32_V (hV : Vk r) (s0 : 0 ≤ s) (s1 : s ≤ 255) : Vk (va_up r 32 s) := by
  refine hV.up (fun i hi => up_ne (by omega)) ?_ ?_ (by rw [up_eq]; exact s0) (by rw [up_eq]; exact s1) ?_ ?_
  · rw [up_ne (by omega)]; exact hV.2.2.2.2.1
  · rw [up_ne (by omega)]; exact hV.2.2.2.2.2.1
  · rw [up_ne (by omega)]; exact hV.2.2.2.2.2.2.2.2.1
  · rw [up_ne (by omega)]; exact hV.2.2.2.2.2.2.2.2.2
theorem bdR_V (hV : Vk r) (s0 : 0 ≤ s) (s1 : s ≤ 255) : Vk (bdR cs r s) := by
  have t0 := hV.2.2.2.2.2.2.2.2.1
  have t1 := hV.2.2.2.2.2.2.2.2.2
  refine hV.up (fun i hi => bdR_lo (by omega)) ?_ ?_ (by rw [bdR_32]; exact s0) (by rw [bdR_32]; exact s1) ?_ ?_
  · rw [bdR_lo (by omega)]; exact hV.2.2.2.2.1
  · rw [bdR_lo (by omega)]; exact hV.2.2.2.2.2.1
  · rw [bdR_187]; split <;> omega
  · rw [bdR_187]; split <;> omega
theorem tbL_b (hV : Vk r) (L : List (Nat × Nat)) (hL : L ≠ [] → 1 ≤ r 0) (u : Nat) : (0 ≤ (tbL r L).1 u ∧ (tbL r L).1 u ≤ 3) ∧ (0 ≤ (tbL r L).2 u ∧ (tbL r L).2 u ≤ 29) := by
  cases L with
  | nil => unfold tbL tbG; dsimp only; omega
  | cons x L => exact tbG_b (hL (fun z => by cases z)) hV.2.1 (x :: L) u
theorem plR_s (hV : Vk r) : (pelR cs r s).length ≤ (r 0).toNat := (pel_core (vtR_V hV hV.2.2.2.2.1 hV.2.2.2.2.2.1)).1
theorem bdR_T (hV : Vk r) (s0 : 0 ≤ s) (s1 : s ≤ 255) : Vt (bdR cs r s) := by
  have hV2 := up32_V hV s0 s1
  refine Vt.cg (r := tbR (va_up r 32 s) (tbL (va_up r 32 s) (pelR cs (va_up r 32 s) s))) (fun i h1 h2 => by unfold bdR; rw [up_ne (by omega)]) (tbR_T hV2 (fun u _ => tbL_b hV2 _ (fun hn => ?_) u))
  have := plR_s (cs := cs) (s := s) hV2
  rcases Int.lt_or_le (va_up r 32 s 0) 1 with z | z
  · exfalso
    apply hn
    exact List.length_eq_zero_iff.mp (by omega)
  · exact z
end BDR
section BD8
variable {N K A st : Nat} {r : Nat → Int} {cs : List (Nat × Cl)}
def Fca (A st : Nat) (M M1 : gM) : Prop := ∀ c, (c < A + 271 ∨ A + 281 < c) → (c < st ∨ st + 6 < c) → g_mi M1 c = g_mi M c
theorem seed_m {x : Int} {i : Nat} (x0 : 0 ≤ x) (x1 : x ≤ 255) (hi : i ≤ 256) : i_rm (iZ x + iZ (i : Int)) 256 = iZ ((x + i) % 256) := by
  rw [iZ_add, iZ_l256, iZ_rm (by omega) (by omega) (by omega) (by omega), Int.tmod_eq_emod_of_nonneg (by omega)]
theorem seed_b {x : Int} : 0 ≤ x % 256 ∧ x % 256 ≤ 255 := by omega
/-- a table for the seed s -/
theorem bd_8t {M : gM} {R : gM → Prop} {s : Int} (hN : 500 ≤ N) (hV : Vk r) (hm : Vm r) (hR : RS M st r) (ds : st + 6 < A + 271 ∨ A + 281 < st) (hF : FC M A (g_mi M (A + 1) 6) cs) (s0 : 0 ≤ s) (s1 : s ≤ 255) (hE : ∀ M1, Fca A st M M1 → RS M1 st (bdR cs r s) → R M1) : pX1_peel N K M (A + 274) st (iZ s) (aLaw M A (g_mi M (A + 1) 6)) (kl M ((aLaw M A (g_mi M (A + 1) 6)) + 1)) (kl M ((aLaw M A (g_mi M (A + 1) 6)) + 5)) (fun M2 => Sl M M2 → ∀ M3 : gM, M3 = g_wi M2 st 5 (iZ s) → pX5_solve N K M3 (st + 3) st (A + 274) (fun M4 => Sl M3 M4 → ∀ M5 : gM, M5 = (g_wi M4 (st + 2) 0 (i_min ((g_mi M4 (st + 2) 0) + 1) 999)) → R M5)) := by
  have r0 := hV.1
  have r30 := hV.2.1
  have t0 := hV.2.2.2.2.2.2.2.2.1
  have t1 := hV.2.2.2.2.2.2.2.2.2
  have hV2 := up32_V hV s0 s1
  obtain ⟨hk, h1, h2, ht⟩ := hR
  have ec : pelR cs (va_up r 32 s) s = pelR cs r s := pelR_cg hV.2.1 (fun i hi => up_ne (by omega)) (up_ne (by omega)) (up_ne (by omega))
  have pl := plR_s (cs := cs) (s := s) hV
  refine pl_ok (cs := cs) hN (by omega) hV hm hk h2 hF.2.1 hF.2.2.2 s0 s1 (by have := hF.2.2.1; omega) (by omega) (fun M2 f2 e8 l2 p2 _ M3 h3 => ?_)
  have k3 : ∀ c j, (c ≠ st ∨ j ≠ 5) → (c < A + 271 ∨ A + 281 < c) → g_mi M3 c j = g_mi M c j := fun c j q1 q2 => by rw [h3, mi_wi, if_neg (by omega), f2 c (by omega)]
  have k2 : ∀ c j, c ≠ st → g_mi M3 c j = g_mi M2 c j := fun c j q => by rw [h3, mi_wi, if_neg (by omega)]
  have RK : Rk M3 st (va_up r 32 s) := by
    refine ⟨?_, fun i hi => ?_, ?_, ?_, ?_⟩
    · rw [k3 _ _ (by omega) (by omega), up_ne (by omega)]; exact hk.1
    · rw [up_ne (by omega)] at hi
      rw [k3 _ _ (by omega) (by omega), up_ne (by omega)]; exact hk.2.1 i hi
    · rw [k3 _ _ (by omega) (by omega), up_ne (by omega)]; exact hk.2.2.1
    · rw [h3, mi_wi, if_pos ⟨rfl, rfl⟩, up_eq]
    · rw [k3 _ _ (by omega) (by omega), up_ne (by omega)]; exact hk.2.2.2.2
  have e0 : va_up r 32 s 0 = r 0 := up_ne (by omega)
  have e31 : va_up r 32 s 31 = r 31 := up_ne (by omega)
  have e32 : va_up r 32 s 32 = s := up_eq
  have fs := (pel_Fz (vt := vtT (va_up r 32 s)) (m := (va_up r 32 s 0).toNat) (V := (3 * va_up r 32 s 31).toNat) (rk := rkF cs (va_up r 32 s) s) (va_up r 32 s 0).toNat (fun _ => true)).1
  have el : pel (vtT (va_up r 32 s)) (va_up r 32 s 0).toNat (3 * va_up r 32 s 31).toNat (rkF cs (va_up r 32 s) s) (va_up r 32 s 0).toNat (fun _ => true) = pelR cs (va_up r 32 s) s := by unfold vtT; rw [e32]
  rw [el] at fs
  refine so_ok (L := pelR cs (va_up r 32 s) s) (vt := vtT (va_up r 32 s)) (pe := A + 274) hN hV2 RK (vtR_V hV2 hV2.2.2.2.2.1 hV2.2.2.2.2.2.1) fs (by rw [ec]; omega) (by omega) (fun k i q1 q2 => ?_) (fun j x hx => ?_) ?_ (fun M4 f4 T4 _ M5 h5 => ?_)
  · rw [k2 _ _ (by omega), p2 k i (by rw [← e0]; exact q1) q2]
    congr 2
    unfold vtT vtR
    rw [e31, e32, up_ne (by omega)]
  · rw [k2 _ _ (by omega), k2 _ _ (by omega)]
    rw [ec] at hx
    exact l2 j x hx
  · rw [k2 _ _ (by omega), e8, ec]
  · have t4 : g_mi M4 (st + 2) 0 = iZ (r 187) := by rw [f4 _ _ (by omega), k3 _ _ (by omega) (by omega)]; exact hk.2.2.2.2
    rw [t4, iZ_l1, iZ_add, iZ_l999, iZ_min (by omega) (by omega) (by omega) (by omega)] at h5
    have k5 : ∀ c j, (c ≠ st + 2 ∨ j ≠ 0) → g_mi M5 c j = g_mi M4 c j := fun c j q => by rw [h5, mi_wi, if_neg (by omega)]
    refine hE M5 (fun c q1 q2 => ?_) ⟨⟨?_, fun i hi => ?_, ?_, ?_, ?_⟩, ?_, ?_, ?_⟩
    · funext j
      rw [k5 _ _ (by omega), f4 _ _ (by omega), k3 _ _ (by omega) q1]
    · rw [k5 _ _ (by omega), f4 _ _ (by omega), bdR_lo (by omega), RK.1, e0]
    · rw [bdR_lo (by omega)] at hi
      rw [k5 _ _ (by omega), f4 _ _ (by omega), bdR_lo (by omega), k3 _ _ (by omega) (by omega)]; exact hk.2.1 i hi
    · rw [k5 _ _ (by omega), f4 _ _ (by omega), bdR_lo (by omega), RK.2.2.1, e31]
    · rw [k5 _ _ (by omega), f4 _ _ (by omega), bdR_32, RK.2.2.2.1, e32]
    · rw [h5, mi_wi, if_pos ⟨rfl, rfl⟩, bdR_187]
    · rw [k5 _ _ (by omega), f4 _ _ (by omega), k3 _ _ (by omega) (by omega), bdR_lo (by omega)]; exact h1
    · rw [k5 _ _ (by omega), f4 _ _ (by omega), k3 _ _ (by omega) (by omega), bdR_lo (by omega)]; exact h2
    · have T5 : Rt M5 (st + 3) (tbR (va_up r 32 s) (tbL (va_up r 32 s) (pelR cs (va_up r 32 s) s))) := by
        unfold Rt at T4 ⊢
        have q : ∀ c, c ≠ st + 2 → g_mi M5 c = g_mi M4 c := fun c h => by funext j; exact k5 c j (by omega)
        rw [q _ (by omega), q _ (by omega), q _ (by omega), q _ (by omega)]
        exact T4
      refine Rt.cg (tbR_T hV2 (fun u _ => tbL_b hV2 _ (fun hn => ?_) u)) (fun i h1 h2 => by unfold bdR; rw [up_ne (by omega)]) T5
      have := plR_s (cs := cs) (s := s) hV2
      rcases Int.lt_or_le (va_up r 32 s 0) 1 with z | z
      · exfalso
        apply hn
        exact List.length_eq_zero_iff.mp (by omega)
      · exact z
theorem bd_8l {M0 : gM} {R : Int32 → gM → Prop} (hN : 500 ≤ N) (hV : Vk r) (hm : Vm r) (hR : RS M0 st r) (ds : st + 6 < A + 271 ∨ A + 281 < st) (hF : FC M0 A (g_mi M0 (A + 1) 6) cs) (dA : st ≠ A + 1) : ∀ (e i n : Nat) (M : gM), i + e = 256 → e + 1 ≤ n → Fk (A + 274) M0 M → Sl M0 M → (∀ M1, Fca A st M0 M1 → RS M1 st (bdB cs r (bdI r e i)).2 → R (iZ (bdB cs r (bdI r e i)).1) M1) → qX8_buildOn N K R n 0 M A st (iZ i) := by
  have d0 := hV.2.2.2.2.1
  have d1 := hV.2.2.2.2.2.1
  have x0 := hV.2.2.2.2.2.2.1
  have x1 := hV.2.2.2.2.2.2.2.1
  have ks : ∀ M : gM, Fk (A + 274) M0 M → RS M st r := fun M f => hR.keep (fun c q1 q2 => f c (by omega) (by omega) (by omega) (by omega))
  intro e
  induction e with
  | zero =>
    intro i n M hi hn f hs hE
    obtain ⟨n2, rfl⟩ : ∃ n2, n = n2 + 1 := ⟨n - 1, by omega⟩
    rw [qX8_buildOn]
    unfold pX8_buildOn_2
    have c1 : (256 : Int32) ≤ iZ (i : Int) := by rw [iZ_l256, iZ_le (by omega) (by omega) (by omega) (by omega)]; omega
    refine ⟨fun _ => ?_, fun z => absurd c1 z⟩
    have := hE M (fun c q1 q2 => f c (by omega) (by omega) (by omega) (by omega)) (ks M f)
    rw [iZ_m3]
    exact this
  | succ e ih =>
    intro i n M hi hn f hs hE
    obtain ⟨n2, rfl⟩ : ∃ n2, n = n2 + 1 := ⟨n - 1, by omega⟩
    rw [qX8_buildOn]
    unfold pX8_buildOn_2
    have c1 : ¬ (256 : Int32) ≤ iZ (i : Int) := by rw [iZ_l256, iZ_le (by omega) (by omega) (by omega) (by omega)]; omega
    have R2 := ks M f
    obtain ⟨s0, s1⟩ := seed_b (x := r 32 + i)
    rw [R2.1.2.2.2.1, R2.1.2.2.1, seed_m x0 x1 (by omega), iZ_s1]
    refine ⟨fun z => absurd z c1, fun _ => cs_none hN hV R2.1 s0 s1 d0 d1 (by omega) (fun M1 v f1 hv hs1 => ?_)⟩
    have hv2 := hv _ (pel_core (rk := fun _ => 0) (vtR_V hV d0 d1)).2
    have hv3 : v = iB (decide (coN r ((r 32 + i) % 256) (r 31) = 0)) := hv2
    have fk : Fk (A + 274) M0 M1 := f.tr f1
    have sl : Sl M0 M1 := Sl.tr hs hs1
    rw [bdI] at hE
    by_cases c : coN r ((r 32 + i) % 256) (r 31) = 0
    · rw [if_pos c] at hE
      have v1 : v = 1 := by rw [hv3, decide_eq_true c]; rfl
      have e6 : g_mi M1 (A + 1) = g_mi M0 (A + 1) := fk _ (by omega) (by omega) (by omega) (by omega)
      have F1 : FC M1 A (g_mi M1 (A + 1) 6) cs := by
        rw [e6]
        have := hF.2.2.1
        exact hF.keep sl (by rw [e6]) (fun c q1 q2 => fk c (by omega) (by omega) (by omega) (by omega))
      refine ⟨fun _ => ⟨F1.1, ?_⟩, fun z => absurd (v1.symm.trans z) (by decide)⟩
      refine bd_8t (R := fun M5 => R (iZ (i : Int)) M5) hN hV hm (ks M1 fk) ds F1 s0 s1 (fun M2 f2 r2 => ?_)
      exact hE M2 (fun c q1 q2 => by rw [f2 c q1 q2, fk c (by omega) (by omega) (by omega) (by omega)]) r2
    · rw [if_neg c] at hE
      have v0 : v = 0 := by rw [hv3, decide_eq_false c]; rfl
      refine ⟨fun z => absurd v0 z, fun _ => ih (i + 1) n2 M1 (by omega) (by omega) fk sl hE⟩
theorem bd_8 {M : gM} {R : Int32 → gM → Prop} (hN : 500 ≤ N) (hV : Vk r) (hm : Vm r) (hR : RS M st r) (ds : st + 6 < A + 271 ∨ A + 281 < st) (dA : st ≠ A + 1) (hF : FC M A (g_mi M (A + 1) 6) cs) (hE : ∀ M1, Fca A st M M1 → RS M1 st (bdA cs r).2 → R (iZ (bdA cs r).1) M1) : pX8_buildOn N K M A st R := by
  unfold pX8_buildOn pX8_buildOn_0
  exact bd_8l hN hV hm hR ds hF dA 256 0 N M (by omega) (by omega) (fun _ _ _ _ _ => rfl) ⟨rfl, rfl, rfl⟩ hE
end BD8
section BD9
variable {N K b : Nat} {r : Nat → Int} {cs : List (Nat × Cl)}
def Fbd (b : Nat) (M M1 : gM) : Prop := ∀ c j, c ≠ b + 2 → (c < b + 12 ∨ b + 18 < c) → (c ≠ b ∨ (j ≠ 22 ∧ j ≠ 23 ∧ j ≠ 24 ∧ j ≠ 25 ∧ j ≠ 35)) → g_mi M1 c j = g_mi M c j
theorem Fqr.bd {M M1 : gM} (h : Fqr b M M1) : Fbd b M M1 := fun c j _ q2 q3 => h c j (by omega) (by omega) (by omega) (by omega) (by omega) (by omega) (by omega)
theorem Fbd.tr {M M1 M2 : gM} (h : Fbd b M M1) (h2 : Fbd b M1 M2) : Fbd b M M2 := fun c j q1 q2 q3 => (h2 c j q1 q2 q3).trans (h c j q1 q2 q3)
theorem les_9 {x : Int} (x0 : 0 ≤ x) (x1 : x ≤ 999) : fX9_lesser 999 (iZ x + 1) = iZ (if 999 < x + 1 then 999 else x + 1) := by
  unfold fX9_lesser
  rw [iZ_l1, iZ_add, iZ_l999]
  by_cases c : x + 1 ≤ 999
  · rw [if_pos (by rw [iZ_le (by omega) (by omega) (by omega) (by omega)]; exact c), if_neg (by omega)]
  · rw [if_neg (by rw [iZ_le (by omega) (by omega) (by omega) (by omega)]; exact c), if_pos (by omega)]
theorem bd_9t {M : gM} {R : gM → Prop} {s : Int} (hN : 2000 ≤ N) (hK : 500 ≤ K) (hV : Vk r) (hm : Vm r) (hR : Rr M b r) (hF : FL r cs) (s0 : 0 ≤ s) (s1 : s ≤ 255) (hc : IsCore (vtR r s (r 31)) (r 0).toNat (3 * r 31).toNat 0) (hE : ∀ M1, Fbd b M M1 → Rr M1 b (bdR cs r s) → R M1) : ∀ M7 : gM, M7 = (g_wi M (b + 2) 32 (iZ s)) → pX9_laysRanks N K M7 b (iZ s) (fun M8 => pX9_peels N K M8 b (iZ s) (fun M9 => pX9_laysTable N K M9 b (fun M10 => ∀ v3 : Int32, v3 = (fX9_lesser 999 ((g_mi M10 (b + 2) 187) + 1)) → ∀ M11 : gM, M11 = (g_wi M10 (b + 2) 187 v3) → R M11))) := by
  intro M7 h7
  have t0 := hV.2.2.2.2.2.2.2.2.1
  have t1 := hV.2.2.2.2.2.2.2.2.2
  have hV2 := up32_V hV s0 s1
  have R7 : Rr M7 b (va_up r 32 s) := by rw [h7]; exact hR.up
  have F7 : FL (va_up r 32 s) cs := hF.cg (fun i h1 h2 => up_ne (by omega))
  have m7 : Vm (va_up r 32 s) := by unfold Vm at hm ⊢; rw [up_ne (by omega)]; exact hm
  have ec : pelR cs (va_up r 32 s) s = pelR cs r s := pelR_cg hV.2.1 (fun i hi => up_ne (by omega)) (up_ne (by omega)) (up_ne (by omega))
  have e0 : va_up r 32 s 0 = r 0 := up_ne (by omega)
  have e31 : va_up r 32 s 31 = r 31 := up_ne (by omega)
  have e32 : va_up r 32 s 32 = s := up_eq
  have pc := pel_core (rk := rkF cs r s) (vtR_V (s := s) hV hV.2.2.2.2.1 hV.2.2.2.2.2.1)
  have len : (pelR cs r s).length = (r 0).toNat := by
    have h1 : (r 0).toNat - (pelR cs r s).length = 0 := pc.2.one hc
    have h2 : (pelR cs r s).length ≤ (r 0).toNat := pc.1
    omega
  have fs := (pel_Fz (vt := vtT (va_up r 32 s)) (m := (va_up r 32 s 0).toNat) (V := (3 * va_up r 32 s 31).toNat) (rk := rkF cs (va_up r 32 s) s) (va_up r 32 s 0).toNat (fun _ => true)).1
  have el : pel (vtT (va_up r 32 s)) (va_up r 32 s 0).toNat (3 * va_up r 32 s 31).toNat (rkF cs (va_up r 32 s) s) (va_up r 32 s 0).toNat (fun _ => true) = pelR cs (va_up r 32 s) s := by unfold vtT; rw [e32]
  rw [el] at fs
  refine lp_ok (by omega) hK hV2 m7 R7 F7 s0 s1 (fun M9 f9 _ l9 => ?_)
  have R9 : Rr M9 b (va_up r 32 s) := fun j hj => by rw [f9 _ _ (by omega) (by omega)]; exact R7 j hj
  have r0 := hV.1
  refine lt_ok hN hV2 R9 fs (by rw [ec, e0, len]; omega) l9 (fun M10 f10 R10 v3 hv3 M11 h11 => ?_)
  have q : g_mi M10 (b + 2) 187 = iZ (r 187) := by rw [R10 187 (by omega), tbR_lo (by omega), up_ne (by omega)]
  rw [q, les_9 t0 t1] at hv3
  rw [hv3] at h11
  refine hE M11 (fun c j q1 q2 q3 => ?_) (by rw [h11]; exact R10.up)
  rw [h11, mi_wi, if_neg (by omega), f10 _ _ q1, f9 _ _ q2 q3, h7, mi_wi, if_neg (by omega)]
theorem bd_9l {M0 : gM} {R : Int32 → gM → Prop} (hN : 2000 ≤ N) (hK : 500 ≤ K) (hV : Vk r) (hm : Vm r) (hR : Rr M0 b r) (hF : FL r cs) : ∀ (e i n : Nat) (M : gM), i + e = 256 → e + 1 ≤ n → Fqr b M0 M → (∀ M1, Fbd b M0 M1 → Rr M1 b (bdB cs r (bdI r e i)).2 → R (iZ (bdB cs r (bdI r e i)).1) M1) → qX9_builds N K R n 0 M b (iZ i) (iZ ((r 32 + i) % 256)) := by
  have d0 := hV.2.2.2.2.1
  have d1 := hV.2.2.2.2.2.1
  have x0 := hV.2.2.2.2.2.2.1
  have x1 := hV.2.2.2.2.2.2.2.1
  intro e
  induction e with
  | zero =>
    intro i n M hi hn f hE
    obtain ⟨n2, rfl⟩ : ∃ n2, n = n2 + 1 := ⟨n - 1, by omega⟩
    rw [qX9_builds]
    unfold pX9_builds_10
    have c1 : (256 : Int32) ≤ iZ (i : Int) := by rw [iZ_l256, iZ_le (by omega) (by omega) (by omega) (by omega)]; omega
    have c2 : iZ (i : Int) = 256 := by rw [iZ_l256, show (i : Int) = 256 by omega]
    refine ⟨fun _ => ⟨fun z => absurd c2 z, fun _ => ?_⟩, fun z => absurd c1 z⟩
    rw [iZ_m3]
    exact hE M f.bd (hR.fqr f)
  | succ e ih =>
    intro i n M hi hn f hE
    obtain ⟨n2, rfl⟩ : ∃ n2, n = n2 + 1 := ⟨n - 1, by omega⟩
    rw [qX9_builds]
    unfold pX9_builds_10
    have c1 : ¬ (256 : Int32) ≤ iZ (i : Int) := by rw [iZ_l256, iZ_le (by omega) (by omega) (by omega) (by omega)]; omega
    have c2 : ¬ iZ (i : Int) = 256 := by rw [iZ_l256, iZ_eq (by omega) (by omega) (by omega) (by omega)]; omega
    obtain ⟨s0, s1⟩ := seed_b (x := r 32 + i)
    refine ⟨fun z => absurd z c1, fun _ => mc_ok (by omega) hV s0 s1 (hR.fqr f) (fun M6 c f6 hc => ?_)⟩
    have ce := co_is hV d0 d1 hc
    have cl := co_le (s := (r 32 + i) % 256) (d := r 31) hV
    have f7 : Fqr b M0 M6 := fun c j q1 q2 q3 q4 q5 q6 q7 => (f6 c j q1 q2 q3 q4 q5 q6 q7).trans (f c j q1 q2 q3 q4 q5 q6 q7)
    have e1 : (iZ (c : Int) ≤ 0) = (c = 0) := by rw [iZ_l0, iZ_le (by omega) (by omega) (by omega) (by omega)]; exact propext ⟨fun _ => by omega, fun _ => by omega⟩
    rw [e1, iZ_s1, show i_rm (iZ ((r 32 + i) % 256) + 1) 256 = iZ ((r 32 + ((i + 1 : Nat) : Int)) % 256) by
      have := seed_m (x := (r 32 + i) % 256) (i := 1) s0 s1 (by omega)
      rw [iZ_l1]
      rw [show iZ ((1 : Nat) : Int) = iZ 1 from rfl] at this
      rw [this, show ((1 : Nat) : Int) = 1 from rfl, Int.emod_add_emod, show r 32 + (i : Int) + 1 = r 32 + ((i + 1 : Nat) : Int) by omega]]
    rw [bdI, ← ce] at hE
    refine ⟨fun z => ⟨fun _ => ?_, fun w => absurd w c2⟩, fun z => ?_⟩
    · rw [if_pos z] at hE
      refine bd_9t (R := fun M11 => R (iZ (i : Int)) M11) hN hK hV hm (hR.fqr f7) hF s0 s1 (z ▸ hc) (fun M1 g1 g2 => hE M1 (f7.bd.tr g1) g2)
    · rw [if_neg z] at hE
      exact ih (i + 1) n2 M6 (by omega) (by omega) f7 hE
theorem bd_9 {M : gM} {R : Int32 → gM → Prop} (hN : 2000 ≤ N) (hK : 500 ≤ K) (hV : Vk r) (hm : Vm r) (hR : Rr M b r) (hF : FL r cs) (hE : ∀ M1, Fbd b M M1 → Rr M1 b (bdA cs r).2 → R (iZ (bdA cs r).1) M1) : pX9_builds N K M b R := by
  have x0 := hV.2.2.2.2.2.2.1
  have x1 := hV.2.2.2.2.2.2.2.1
  unfold pX9_builds pX9_builds_0
  have := bd_9l (M0 := M) (R := R) (N := N) (K := K) hN hK hV hm hR hF 256 0 N M (by omega) (by omega) (fun _ _ _ _ _ _ _ _ _ => rfl) hE
  rw [show (r 32 + ((0 : Nat) : Int)) % 256 = r 32 by omega] at this
  rw [hR 32 (by omega)]
  exact this
end BD9
