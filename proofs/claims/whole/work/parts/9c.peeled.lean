/-! peeled, both programs. -/
/-- a law of the class by its number x -/
def FC (M : gM) (A : Nat) (x : Int32) (cs : List (Nat × Cl)) : Prop := EX8_lawNumbered M A x ∧ Te M (aLaw M A x) (kl M (aLaw M A x + 1)) (kl M (aLaw M A x + 5)) Wl cs ∧ A + 281 < aLaw M A x ∧ ∀ c ∈ cs, Clb false c.2
def plA (cs : List (Nat × Cl)) (r : Nat → Int) (x y : Int) : Int := if x < 0 then -1 else if 0 ≤ y ∧ y ≤ 1 then (match (pelR cs r (r 32))[x.toNat]? with
  | some q => if y = 0 then r (1 + q.1) else q.2
  | none => -1) else -1
theorem pel_mem {vt : Nat → Nat → Nat} {m V : Nat} {rk : Nat → Int} : ∀ (f : Nat) (S : Nat → Bool) (q : Nat × Nat), q ∈ pel vt m V rk f S → q.1 < m ∧ q.2 < V := by
  intro f
  induction f with
  | zero => intro S q h; cases h
  | succ f ih =>
    intro S q h
    rw [pel] at h
    cases hn : nfS vt m V rk S with
    | none => rw [hn] at h; cases h
    | some v =>
      rw [hn] at h
      dsimp only at h
      obtain ⟨a1, _, a3, _⟩ := nfS_s hn
      rcases List.mem_cons.mp h with z | z
      · rw [z]; exact ⟨a3, a1⟩
      · exact ih _ q z
section PD
variable {N K A b : Nat} {r : Nat → Int} {cs : List (Nat × Cl)} {x y : Int}
theorem plR_l (hV : Vk r) : (pelR cs r (r 32)).length ≤ (r 0).toNat := (pel_core (vtR_V hV hV.2.2.2.2.1 hV.2.2.2.2.2.1)).1
theorem pd_8 {M : gM} {R : Int32 → gM → Prop} (hN : 500 ≤ N) (hV : Vk r) (hm : Vm r) (hR : Rk M (A + 1 + 1) r) (h2 : g_mi M (A + 1 + 1 + 2) 2 = iZ (r 201)) (hF : FC M A (g_mi M (A + 1) 6) cs) (x1 : -2147483648 ≤ x) (x2 : x < 2147483648) (y1 : -2147483648 ≤ y) (y2 : y < 2147483648) (hE : ∀ M1, Fpl (A + 274) M M1 → R (iZ (plA cs r x y)) M1) : pX8_peeled N K M A (iZ x) (iZ y) R := by
  have m0 := hV.1
  have m2 := hV.2.1
  have s0 := hV.2.2.2.2.2.2.1
  have s1 := hV.2.2.2.2.2.2.2.1
  have ll := plR_l (cs := cs) hV
  have no : (pelR cs r (r 32)).length ≤ x.toNat → (pelR cs r (r 32))[x.toNat]? = none := fun z => List.getElem?_eq_none z
  unfold plA at hE
  unfold pX8_peeled
  have c1 : (iZ x < 0) = (x < 0) := by rw [iZ_l0, iZ_lt (by omega) (by omega) (by omega) (by omega)]
  have c2 : (iZ (r 0) ≤ iZ x) = (r 0 ≤ x) := by rw [iZ_le (by omega) (by omega) (by omega) (by omega)]
  have c3 : (iZ y < 0) = (y < 0) := by rw [iZ_l0, iZ_lt (by omega) (by omega) (by omega) (by omega)]
  have c4 : (iZ y ≤ 1) = (y ≤ 1) := by rw [iZ_l1, iZ_le (by omega) (by omega) (by omega) (by omega)]
  have c5 : (iZ y = 0) = (y = 0) := by rw [iZ_l0, iZ_eq (by omega) (by omega) (by omega) (by omega)]
  rw [hR.1, hR.2.2.2.1, c1, c2, c3, c4, c5]
  have f0 : Fpl (A + 274) M M := fun _ _ => rfl
  refine ⟨fun z => ?_, fun z => ⟨fun z2 => ?_, fun z2 => ⟨fun z3 => ?_, fun z3 => ⟨fun z4 => ⟨hF.1, ?_⟩, fun z4 => ?_⟩⟩⟩⟩
  · rw [if_pos z] at hE; exact hE M f0
  · rw [if_neg z, no (by omega)] at hE
    have := hE M f0
    split at this <;> exact this
  · rw [if_neg z, if_neg (by omega)] at hE; exact hE M f0
  · rw [if_neg z, if_pos (by omega)] at hE
    refine pl_ok (cs := cs) hN (by omega) hV hm hR h2 hF.2.1 hF.2.2.2 s0 s1 (by have := hF.2.2.1; omega) (by omega) (fun M1 f1 e8 l1 _ => ?_)
    have k := hE M1 f1
    rw [e8, iZ_lt (by omega) (by omega) (by omega) (by omega), show x = ((x.toNat : Nat) : Int) by omega, iZ_cl (show x.toNat < 2147483648 by omega)]
    refine ⟨fun w => ?_, fun w => ?_⟩
    · have hlt : x.toNat < (pelR cs r (r 32)).length := by omega
      have eq := List.getElem?_eq_getElem hlt
      have lq := l1 _ _ eq
      have mq := pel_mem _ _ _ (List.getElem_mem hlt)
      rw [eq] at k
      dsimp only at k
      rw [Nat.zero_add] at lq
      have vx30 : vp_in (iZ ((x.toNat : Nat) : Int)) 30 := iZ_in (by omega) (by omega) (by omega)
      refine ⟨fun q => ⟨vx30, ?_⟩, fun q => ⟨vx30, ?_⟩⟩
      · rw [if_neg q] at k
        rw [lq.2]; exact k
      · rw [if_pos q] at k
        rw [lq.1, iZ_cl (by omega), f1 _ (by omega), hR.2.1 _ (by omega)]
        exact ⟨iZ_in (by omega) (by omega) (by omega), k⟩
    · rw [no (by omega)] at k
      exact k
  · rw [if_neg z, if_neg (by omega)] at hE; exact hE M f0
theorem lp32 {M : gM} {R : gM → Prop} (hN : 500 ≤ N) (hK : 500 ≤ K) (hV : Vk r) (hm : Vm r) (hR : Rr M b r) (hF : FL r cs) (hE : ∀ M1, Fap b M M1 → g_mi M1 b 35 = iZ (r 0 - (pelR cs r (r 32)).length) → Lm M1 b 0 r (pelR cs r (r 32)) → R M1) : pX9_laysRanks N K M b (iZ (r 32)) (fun M1 => pX9_peels N K M1 b (g_mi M1 (b + 2) 32) R) := by
  have s0 := hV.2.2.2.2.2.2.1
  have s1 := hV.2.2.2.2.2.2.2.1
  refine lr_ok hN hK hV hm hR hF s0 s1 (fun M1 f1 r1 => ?_)
  have R1 : Rr M1 b r := fun j hj => by rw [f1 _ _ (by omega) (by omega) (by omega)]; exact hR j hj
  rw [R1 32 (by omega)]
  refine mp_ok (rk := rkF cs r (r 32)) hN hV s0 s1 R1 (fun v hv => ⟨r1 v hv, rkF_b⟩) (fun M2 f2 e2 l2 => hE M2 (fun c j q1 q2 => ?_) e2 l2)
  rw [f2 c j (by omega) (by omega) (by omega) (by omega) (by omega) (by omega)]
  exact f1 c j (by omega) (by omega) (by omega)
theorem pd_9 {M : gM} {R : Int32 → gM → Prop} (hN : 500 ≤ N) (hK : 500 ≤ K) (hV : Vk r) (hm : Vm r) (hR : Rr M b r) (hF : FL r cs) (x1 : -2147483648 ≤ x) (x2 : x < 2147483648) (y1 : -2147483648 ≤ y) (y2 : y < 2147483648) (hE : ∀ M1, Fap b M M1 → R (iZ (plA cs r x y)) M1) : pX9_peeled N K M b (iZ x) (iZ y) R := by
  have m0 := hV.1
  have m2 := hV.2.1
  have ll := plR_l (cs := cs) hV
  have no : (pelR cs r (r 32)).length ≤ x.toNat → (pelR cs r (r 32))[x.toNat]? = none := fun z => List.getElem?_eq_none z
  unfold plA at hE
  unfold pX9_peeled
  have c1 : (iZ x < 0) = (x < 0) := by rw [iZ_l0, iZ_lt (by omega) (by omega) (by omega) (by omega)]
  have c5 : (iZ y = 0) = (y = 0) := by rw [iZ_l0, iZ_eq (by omega) (by omega) (by omega) (by omega)]
  rw [hR 32 (by omega), c1, c5, show (0 : Int32) = iZ 0 from rfl, show (1 : Int32) = iZ 1 from rfl, lies_9 y1 y2 (by omega) (by omega) (by omega) (by omega)]
  have f0 : Fap b M M := fun _ _ _ _ => rfl
  refine ⟨fun z => ?_, fun z v1 hv1 => ⟨fun z2 => ?_, fun z2 => ?_⟩⟩
  · rw [if_pos z] at hE; exact hE M f0
  · have zz : 0 ≤ y ∧ y ≤ 1 := by
      rw [hv1] at z2
      by_cases c : 0 ≤ y ∧ y ≤ 1
      · exact c
      · rw [decide_eq_false c] at z2; exact absurd rfl z2
    rw [if_neg z, if_pos zz] at hE
    refine lp32 hN hK hV hm hR hF (fun M2 f2 e35 l2 => ?_)
    have k := hE M2 f2
    rw [e35, f2 (b + 2) 0 (by omega) (by omega), hR 0 (by omega), iZ_sub, iZ_lt (by omega) (by omega) (by omega) (by omega), show x = ((x.toNat : Nat) : Int) by omega, iZ_cl (show x.toNat < 2147483648 by omega)]
    refine ⟨fun w => ?_, fun w => ?_⟩
    · have hlt : x.toNat < (pelR cs r (r 32)).length := by omega
      have eq := List.getElem?_eq_getElem hlt
      have lq := l2 _ _ eq
      rw [eq] at k
      dsimp only at k
      rw [Nat.zero_add] at lq
      have vx30 : vp_in (iZ ((x.toNat : Nat) : Int)) 30 := iZ_in (by omega) (by omega) (by omega)
      refine ⟨fun q => ⟨vx30, ?_⟩, fun q => ⟨vx30, ?_⟩⟩
      · rw [if_neg q] at k
        rw [lq.2]; exact k
      · rw [if_pos q] at k
        rw [lq.1]; exact k
    · rw [no (by omega)] at k
      exact k
  · have zz : ¬ (0 ≤ y ∧ y ≤ 1) := fun c => by
      rw [hv1, decide_eq_true c] at z2; exact absurd z2 (by decide)
    rw [if_neg z, if_neg zz] at hE; exact hE M f0
end PD
