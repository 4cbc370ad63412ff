/-! leastSide, both programs. -/
def hgN (r : Nat → Int) (d : Int) : Nat → Nat → Bool
  | 0, _ => false
  | n + 1, u => if coN r u d = 0 then true else hgN r d n (u + 1)
def lsF (r : Nat → Int) : Nat → Nat → Int
  | 0, _ => -1
  | n + 1, d => if hgN r d 16 0 = true then d else lsF r n (d + 1)
theorem coN_up {r : Nat → Int} {s d : Int} (hV : Vk r) (d0 : 2 ≤ d) (d1 : d ≤ 20) : Vk (va_up r 31 d) ∧ coN (va_up r 31 d) s d = coN r s d := by
  have h1 := hV.2.2.2.2.2.2
  have V2 : Vk (va_up r 31 d) := hV.up (fun i hi => up_ne (by omega)) (by rw [up_eq]; exact d0) (by rw [up_eq]; exact d1) (by rw [up_ne (by omega)]; exact h1.1) (by rw [up_ne (by omega)]; exact h1.2.1) (by rw [up_ne (by omega)]; exact h1.2.2.1) (by rw [up_ne (by omega)]; exact h1.2.2.2)
  refine ⟨V2, ?_⟩
  have m30 := hV.2.1
  have p := (pel_core (rk := fun _ => 0) (vtR_V (s := s) V2 d0 d1)).2
  have e0 : va_up r 31 d 0 = r 0 := up_ne (by omega)
  have q : IsCore (vtR r s d) (r 0).toNat (3 * d).toNat (coN (va_up r 31 d) s d) := by
    rw [← e0]
    refine IsCore.cg (fun k i hk => ?_) p
    unfold vtR
    rw [up_ne (by rw [e0] at hk; omega)]
  exact co_is hV d0 d1 q
section L8
variable {N K A : Nat} {r : Nat → Int}
theorem ls_8i {M0 : gM} {R : Int32 → gM → Prop} {d n0 : Nat} (hN : 500 ≤ N) (hV : Vk r) (hR : Rk M0 (A + 1 + 1) r) (d0 : 2 ≤ d) (d1 : d ≤ 20) : ∀ (e u n : Nat) (M : gM), u + e = 16 → e + n0 + 1 ≤ n → Fk (A + 274) M0 M → (hgN r d e u = true → ∀ M1, Fk (A + 274) M0 M1 → R (iZ d) M1) → (hgN r d e u = false → ∀ M1 n1, Fk (A + 274) M0 M1 → n0 ≤ n1 → qX8_leastSide N K R n1 0 M1 A (iZ ((d + 1 : Nat) : Int)) 0) → qX8_leastSide N K R n 1 M A (iZ d) (iZ u) := by
  intro e
  induction e with
  | zero =>
    intro u n M hu hn f h1 h2
    obtain ⟨n2, rfl⟩ : ∃ n2, n = n2 + 1 := ⟨n - 1, by omega⟩
    rw [qX8_leastSide, if_neg (by decide)]
    unfold pX8_leastSide_10
    have c1 : (16 : Int32) ≤ iZ (u : Int) := by rw [iZ_l16, iZ_le (by omega) (by omega) (by omega) (by omega)]; omega
    rw [iZ_s1]
    exact ⟨fun _ => h2 rfl M n2 f (by omega), fun z => absurd c1 z⟩
  | succ e ih =>
    intro u n M hu hn f h1 h2
    obtain ⟨n2, rfl⟩ : ∃ n2, n = n2 + 1 := ⟨n - 1, by omega⟩
    rw [qX8_leastSide, if_neg (by decide)]
    unfold pX8_leastSide_10
    have c1 : ¬ (16 : Int32) ≤ iZ (u : Int) := by rw [iZ_l16, iZ_le (by omega) (by omega) (by omega) (by omega)]; omega
    have R2 := hR.fk f (by omega)
    refine ⟨fun z => absurd z c1, fun _ => cs_none hN hV R2 (by omega) (by omega) (show (2 : Int) ≤ (d : Int) by omega) (by omega) (by omega) (fun M1 v f1 hv => ?_)⟩
    have hv2 := hv _ (pel_core (rk := fun _ => 0) (vtR_V (s := (u : Int)) hV (show (2 : Int) ≤ (d : Int) by omega) (by omega))).2
    have e3 : (r 0).toNat - (pel (vtR r (u : Int) (d : Int)) (r 0).toNat (3 * (d : Int)).toNat (fun _ => 0) (r 0).toNat fun _ => true).length = coN r u d := rfl
    rw [e3] at hv2
    subst hv2
    rw [iB_0, decide_eq_false_iff_not, iZ_s1 u]
    rw [hgN] at h1 h2
    refine ⟨fun z => ?_, fun z => ?_⟩
    · rw [if_neg z] at h1 h2
      exact ih (u + 1) n2 M1 (by omega) (by omega) (f.tr f1) h1 h2
    · rw [if_pos (Classical.not_not.mp z)] at h1
      exact h1 rfl M1 (f.tr f1)
theorem ls_8 {M : gM} {R : Int32 → gM → Prop} (hN : 500 ≤ N) (hV : Vk r) (hR : Rk M (A + 1 + 1) r) (hE : ∀ M1, Fk (A + 274) M M1 → R (iZ (lsF r 19 2)) M1) : pX8_leastSide N K M A R := by
  have loop : ∀ (e d n : Nat) (M1 : gM), d + e = 21 → 2 ≤ d → 18 * e + 1 ≤ n → Fk (A + 274) M M1 → (∀ M2, Fk (A + 274) M M2 → R (iZ (lsF r e d)) M2) → qX8_leastSide N K R n 0 M1 A (iZ d) 0 := by
    intro e
    induction e with
    | zero =>
      intro d n M1 hd d2 hn f hE
      obtain ⟨n2, rfl⟩ : ∃ n2, n = n2 + 1 := ⟨n - 1, by omega⟩
      rw [qX8_leastSide, if_pos rfl]
      unfold pX8_leastSide_2
      have c1 : (20 : Int32) < iZ (d : Int) := by rw [iZ_l20, iZ_lt (by omega) (by omega) (by omega) (by omega)]; omega
      exact ⟨fun _ => hE M1 f, fun z => absurd c1 z⟩
    | succ e ih =>
      intro d n M1 hd d2 hn f hE
      obtain ⟨n2, rfl⟩ : ∃ n2, n = n2 + 1 := ⟨n - 1, by omega⟩
      rw [qX8_leastSide, if_pos rfl]
      unfold pX8_leastSide_2
      have c1 : ¬ (20 : Int32) < iZ (d : Int) := by rw [iZ_l20, iZ_lt (by omega) (by omega) (by omega) (by omega)]; omega
      rw [lsF] at hE
      refine ⟨fun z => absurd z c1, fun _ => ls_8i (n0 := 18 * e + 1) hN hV hR d2 (by omega) 16 0 n2 M1 (by omega) (by omega) f (fun h => ?_) (fun h M2 n1 f2 hn2 => ?_)⟩
      · rw [if_pos h] at hE; exact hE
      · rw [if_neg (by rw [h]; decide)] at hE
        exact ih (d + 1) n1 M2 (by omega) (by omega) hn2 f2 hE
  unfold pX8_leastSide pX8_leastSide_0
  exact loop 19 2 N M (by omega) (by omega) (by omega) (fun _ _ _ _ _ => rfl) hE
end L8
section L9
variable {N K b : Nat} {r : Nat → Int}
def Fq2 (b : Nat) (M M1 : gM) : Prop := ∀ c j, c ≠ b + 2 → c ≠ b + 13 → c ≠ b + 14 → c ≠ b + 15 → c ≠ b + 16 → c ≠ b + 17 → c ≠ b + 18 → (c ≠ b ∨ j ≠ 35) → g_mi M1 c j = g_mi M c j
theorem hg_9 {M0 : gM} {R : Int32 → gM → Prop} {d : Nat} (hN : 500 ≤ N) (hV : Vk r) (d0 : 2 ≤ d) (d1 : d ≤ 20) (hR : Rr M0 b (va_up r 31 d)) : ∀ (e u n : Nat) (M : gM), u + e = 16 → e + 1 ≤ n → Fqr b M0 M → (∀ M1, Fqr b M0 M1 → R (iB (hgN r d e u)) M1) → qX9_hasGood N K R n 0 M b (iZ u) := by
  have ed : va_up r 31 (d : Int) 31 = d := up_eq
  intro e
  induction e with
  | zero =>
    intro u n M hu hn f hE
    obtain ⟨n2, rfl⟩ : ∃ n2, n = n2 + 1 := ⟨n - 1, by omega⟩
    rw [qX9_hasGood]
    unfold pX9_hasGood_2
    have c1 : (16 : Int32) ≤ iZ (u : Int) := by rw [iZ_l16, iZ_le (by omega) (by omega) (by omega) (by omega)]; omega
    exact ⟨fun _ => hE M f, fun z => absurd c1 z⟩
  | succ e ih =>
    intro u n M hu hn f hE
    obtain ⟨n2, rfl⟩ : ∃ n2, n = n2 + 1 := ⟨n - 1, by omega⟩
    rw [qX9_hasGood]
    unfold pX9_hasGood_2
    have c1 : ¬ (16 : Int32) ≤ iZ (u : Int) := by rw [iZ_l16, iZ_le (by omega) (by omega) (by omega) (by omega)]; omega
    obtain ⟨V2, cu⟩ := coN_up (s := (u : Int)) hV (show (2 : Int) ≤ (d : Int) by omega) (by omega)
    refine ⟨fun z => absurd z c1, fun _ => mc_ok hN V2 (by omega) (by omega) (hR.fqr f) (fun M1 co f1 hco => ?_)⟩
    have ce := co_is V2 (by rw [ed]; omega) (by rw [ed]; omega) hco
    rw [ed, cu] at ce
    subst ce
    have cl := co_le (s := (u : Int)) (d := (d : Int)) hV
    have e0 : (iZ ((coN r u d : Nat) : Int) = 0) = (coN r u d = 0) := by rw [iZ_l0, iZ_eq (by omega) (by omega) (by omega) (by omega)]; exact propext ⟨fun _ => by omega, fun _ => by omega⟩
    rw [e0, iZ_s1 u]
    rw [hgN] at hE
    refine ⟨fun z => ?_, fun z => ?_⟩
    · rw [if_neg z] at hE
      exact ih (u + 1) n2 M1 (by omega) (by omega) (f.tr f1) hE
    · rw [if_pos z] at hE
      exact hE M1 (f.tr f1)
theorem ls_9 {M : gM} {R : Int32 → gM → Prop} (hN : 500 ≤ N) (hV : Vk r) (hR : Rr M b r) (hE : ∀ M1, Fq2 b M M1 → Rr M1 b r → R (iZ (lsF r 19 2)) M1) : pX9_leastSide N K M b R := by
  -- the side put back
  have back : ∀ (M1 M2 : gM) (d : Nat), Rr M1 b (va_up r 31 (d : Int)) → M2 = g_wi M1 (b + 2) 31 (iZ (r 31)) → Rr M2 b r ∧ ∀ c j, c ≠ b + 2 → g_mi M2 c j = g_mi M1 c j := fun M1 M2 d h e => by
    refine ⟨fun j hj => ?_, fun c j q => by rw [e, mi_wi, if_neg (by omega)]⟩
    by_cases c : j = 31
    · rw [e, mi_wi, if_pos ⟨rfl, c⟩, c]
    · rw [e, mi_wi, if_neg (by omega), h j hj, up_ne c]
  have loop : ∀ (e d n : Nat) (M1 : gM), d + e = 21 → 2 ≤ d → e + 1 ≤ n → Fq2 b M M1 → Rr M1 b (va_up r 31 (d : Int)) → (∀ M2, Fq2 b M M2 → Rr M2 b r → R (iZ (lsF r e d)) M2) → qX9_leastSide N K R n 0 M1 b (iZ (r 31)) := by
    intro e
    induction e with
    | zero =>
      intro d n M1 hd d2 hn f hR1 hE
      obtain ⟨n2, rfl⟩ : ∃ n2, n = n2 + 1 := ⟨n - 1, by omega⟩
      rw [qX9_leastSide]
      unfold pX9_leastSide_16
      have s31 : g_mi M1 (b + 2) 31 = iZ (d : Int) := by rw [hR1 31 (by omega), up_eq]
      have c1 : (20 : Int32) < iZ (d : Int) := by rw [iZ_l20, iZ_lt (by omega) (by omega) (by omega) (by omega)]; omega
      have c2 : ¬ iZ (d : Int) ≤ 20 := by rw [iZ_l20, iZ_le (by omega) (by omega) (by omega) (by omega)]; omega
      rw [s31]
      refine ⟨fun _ => ⟨fun z => absurd z c2, fun _ M2 h2 => ?_⟩, fun z => absurd c1 z⟩
      obtain ⟨k1, k2⟩ := back M1 M2 d hR1 h2
      exact hE M2 (fun c j q1 q2 q3 q4 q5 q6 q7 q8 => (k2 c j q1).trans (f c j q1 q2 q3 q4 q5 q6 q7 q8)) k1
    | succ e ih =>
      intro d n M1 hd d2 hn f hR1 hE
      obtain ⟨n2, rfl⟩ : ∃ n2, n = n2 + 1 := ⟨n - 1, by omega⟩
      rw [qX9_leastSide]
      unfold pX9_leastSide_16
      have s31 : g_mi M1 (b + 2) 31 = iZ (d : Int) := by rw [hR1 31 (by omega), up_eq]
      have c1 : ¬ (20 : Int32) < iZ (d : Int) := by rw [iZ_l20, iZ_lt (by omega) (by omega) (by omega) (by omega)]; omega
      have c2 : iZ (d : Int) ≤ 20 := by rw [iZ_l20, iZ_le (by omega) (by omega) (by omega) (by omega)]; omega
      rw [s31]
      rw [lsF] at hE
      refine ⟨fun z => absurd z c1, fun _ => ?_⟩
      unfold pX9_hasGood pX9_hasGood_0
      refine hg_9 (M0 := M1) hN hV d2 (by omega) hR1 16 0 N M1 (by omega) (by omega) (fun _ _ _ _ _ _ _ _ _ => rfl) (fun M3 f3 => ?_)
      have R3 := hR1.fqr f3
      have t31 : g_mi M3 (b + 2) 31 = iZ (d : Int) := by rw [R3 31 (by omega), up_eq]
      have F3 : Fq2 b M M3 := fun c j q1 q2 q3 q4 q5 q6 q7 q8 => (f3 c j q2 q3 q4 q5 q6 q7 q8).trans (f c j q1 q2 q3 q4 q5 q6 q7 q8)
      rw [t31, iB_0]
      refine ⟨fun z => ⟨fun _ M4 h4 => ?_, fun y => absurd c2 y⟩, fun z M6 h6 => ?_⟩
      · have z2 : hgN r d 16 0 = true := by
          cases h : hgN r d 16 0 with
          | true => rfl
          | false => exact absurd h z
        rw [if_pos z2] at hE
        obtain ⟨k1, k2⟩ := back M3 M4 d R3 h4
        exact hE M4 (fun c j q1 q2 q3 q4 q5 q6 q7 q8 => (k2 c j q1).trans (F3 c j q1 q2 q3 q4 q5 q6 q7 q8)) k1
      · rw [if_neg (by rw [z]; decide)] at hE
        rw [iZ_s1] at h6
        refine ih (d + 1) n2 M6 (by omega) (by omega) (by omega) (fun c j q1 q2 q3 q4 q5 q6 q7 q8 => ?_) (fun j hj => ?_) hE
        · rw [h6, mi_wi, if_neg (by omega)]; exact F3 c j q1 q2 q3 q4 q5 q6 q7 q8
        · by_cases c : j = 31
          · rw [h6, mi_wi, if_pos ⟨rfl, c⟩, c, up_eq]
          · rw [h6, mi_wi, if_neg (by omega), R3 j hj, up_ne c, up_ne c]
  unfold pX9_leastSide pX9_leastSide_0
  intro M1 h1
  rw [hR 31 (by omega)]
  refine loop 19 2 N M1 (by omega) (by omega) (by omega) (fun c j q1 q2 q3 q4 q5 q6 q7 q8 => by rw [h1, mi_wi, if_neg (by omega)]) (fun j hj => ?_) hE
  by_cases c : j = 31
  · rw [h1, mi_wi, if_pos ⟨rfl, c⟩, c, up_eq]; rfl
  · rw [h1, mi_wi, if_neg (by omega), up_ne c]; exact hR j hj
end L9
