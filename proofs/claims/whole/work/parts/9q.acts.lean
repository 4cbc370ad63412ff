/-! Acts by kind; refused, accepted; the class changes, takes back. -/
def acA (cs : List (Nat × Cl)) (r : Nat → Int) (kind : Nat) (x : Int) : Int × (Nat → Int) := if kind = 0 then adA cs r x else if kind = 1 then takeA r x else if kind = 2 then sideA r x else if kind = 3 then seedA r x else bdA cs r
section ACA
variable {cs : List (Nat × Cl)} {r : Nat → Int} {kind : Nat} {x : Int}
theorem adA_o : adA cs r x = (-1, r) ∨ adA cs r x = (-3, r) ∨ adA cs r x = (-5, r) ∨ (adA cs r x = (r 0 + 1, addR r x) ∧ 0 ≤ x ∧ x ≤ 999 ∧ isT r x = false ∧ r 0 < 30) := by
  unfold adA
  split
  · split
    · exact Or.inr (Or.inl rfl)
    · split
      · exact Or.inr (Or.inl rfl)
      · split
        · refine Or.inr (Or.inr (Or.inr ⟨rfl, by omega, by omega, ?_, by assumption⟩))
          cases h : isT r x with
          | false => rfl
          | true => exact absurd h (by assumption)
        · exact Or.inr (Or.inr (Or.inl rfl))
  · exact Or.inl rfl
theorem bdA_o : bdA cs r = (-3, r) ∨ ∃ i : Nat, i < 256 ∧ bdA cs r = ((i : Int), bdR cs r ((r 32 + i) % 256)) := by
  have h : ∀ e i : Nat, bdI r e i = none ∨ ∃ j : Nat, j < i + e ∧ bdI r e i = some j := by
    intro e
    induction e with
    | zero => intro i; exact Or.inl rfl
    | succ e ih =>
      intro i
      rw [bdI]
      split
      · exact Or.inr ⟨i, by omega, rfl⟩
      · rcases ih (i + 1) with z | ⟨j, j1, j2⟩
        · exact Or.inl z
        · exact Or.inr ⟨j, by omega, j2⟩
  unfold bdA
  rcases h 256 0 with z | ⟨j, j1, j2⟩
  · rw [z]; exact Or.inl rfl
  · rw [j2]; exact Or.inr ⟨j, by omega, rfl⟩
theorem acA_hi (hV : Vk r) {i : Nat} (hi : 188 ≤ i) : (acA cs r kind x).2 i = r i := by
  unfold acA
  split
  · rcases adA_o (cs := cs) (r := r) (x := x) with z | z | z | ⟨z, _, _, _, z30⟩ <;> rw [z]
    exact addR_hi hV z30 (by omega)
  · split
    · exact takeA_hi hV (by omega)
    · split
      · exact sideA_hi (by omega)
      · split
        · exact seedA_hi (by omega)
        · rcases bdA_o (cs := cs) (r := r) with z | ⟨j, _, z⟩ <;> rw [z]
          exact bdR_lo (by omega)
theorem acA_V (hV : Vk r) : Vk (acA cs r kind x).2 := by
  unfold acA
  split
  · rcases adA_o (cs := cs) (r := r) (x := x) with z | z | z | ⟨z, x0, x1, xt, z30⟩ <;> rw [z]
    · exact hV
    · exact hV
    · exact hV
    · exact addR_V hV z30 x0 x1 xt
  · split
    · exact takeA_V hV
    · split
      · exact sideA_V hV
      · split
        · exact seedA_V hV
        · rcases bdA_o (cs := cs) (r := r) with z | ⟨j, _, z⟩ <;> rw [z]
          · exact hV
          · exact bdR_V hV seed_b.1 seed_b.2
theorem acA_T (hV : Vk r) (hT : Vt r) : Vt (acA cs r kind x).2 := by
  unfold acA
  split
  · rcases adA_o (cs := cs) (r := r) (x := x) with z | z | z | ⟨z, x0, x1, xt, z30⟩ <;> rw [z]
    · exact hT
    · exact hT
    · exact hT
    · exact hT.cg (fun i h1 h2 => addR_hi hV z30 (by omega))
  · split
    · exact hT.cg (fun i h1 h2 => takeA_hi hV (by omega))
    · split
      · exact hT.cg (fun i h1 h2 => sideA_hi (by omega))
      · split
        · exact hT.cg (fun i h1 h2 => seedA_hi (by omega))
        · rcases bdA_o (cs := cs) (r := r) with z | ⟨j, _, z⟩ <;> rw [z]
          · exact hT
          · exact bdR_T hV seed_b.1 seed_b.2
theorem acA_n (hV : Vk r) (h : (acA cs r kind x).1 < 0) : (acA cs r kind x).2 = r ∧ ((acA cs r kind x).1 = -1 ∨ (acA cs r kind x).1 = -3 ∨ (acA cs r kind x).1 = -5) := by
  have v1 := hV.1
  have v3 := hV.2.2.2.2.1
  have v4 := hV.2.2.2.2.2.2.1
  unfold acA at h ⊢
  by_cases k0 : kind = 0
  · rw [if_pos k0] at h ⊢
    rcases adA_o (cs := cs) (r := r) (x := x) with z | z | z | ⟨z, x0, x1, xt, z30⟩ <;> rw [z] at h ⊢
    · exact ⟨rfl, Or.inl rfl⟩
    · exact ⟨rfl, Or.inr (Or.inl rfl)⟩
    · exact ⟨rfl, Or.inr (Or.inr rfl)⟩
    · dsimp only at h; omega
  · rw [if_neg k0] at h ⊢
    by_cases k1 : kind = 1
    · rw [if_pos k1] at h ⊢
      unfold takeA at h ⊢
      by_cases c1 : ¬ (0 ≤ x ∧ x ≤ 999)
      · rw [if_pos c1]; exact ⟨rfl, Or.inl rfl⟩
      · rw [if_neg c1] at h ⊢
        by_cases c2 : isT r x = false
        · rw [if_pos c2]; exact ⟨rfl, Or.inr (Or.inl rfl)⟩
        · rw [if_neg c2] at h ⊢
          dsimp only at h
          exfalso
          have c3 : isT r x = true := by cases hh : isT r x with | true => rfl | false => exact absurd hh c2
          unfold isT at c3
          have := of_decide_eq_true c3
          omega
    · rw [if_neg k1] at h ⊢
      by_cases k2 : kind = 2
      · rw [if_pos k2] at h ⊢
        unfold sideA at h ⊢
        by_cases c1 : ¬ (2 ≤ x ∧ x ≤ 20)
        · rw [if_pos c1]; exact ⟨rfl, Or.inl rfl⟩
        · rw [if_neg c1] at h ⊢
          by_cases c2 : x = r 31
          · rw [if_pos c2]; exact ⟨rfl, Or.inr (Or.inl rfl)⟩
          · rw [if_neg c2] at h
            dsimp only at h; omega
      · rw [if_neg k2] at h ⊢
        by_cases k3 : kind = 3
        · rw [if_pos k3] at h ⊢
          unfold seedA at h ⊢
          by_cases c1 : ¬ (0 ≤ x ∧ x ≤ 255)
          · rw [if_pos c1]; exact ⟨rfl, Or.inl rfl⟩
          · rw [if_neg c1] at h ⊢
            by_cases c2 : x = r 32
            · rw [if_pos c2]; exact ⟨rfl, Or.inr (Or.inl rfl)⟩
            · rw [if_neg c2] at h
              dsimp only at h; omega
        · rw [if_neg k3] at h ⊢
          rcases bdA_o (cs := cs) (r := r) with z | ⟨j, _, z⟩ <;> rw [z] at h ⊢
          · exact ⟨rfl, Or.inr (Or.inl rfl)⟩
          · dsimp only at h; omega
theorem acA_b (hV : Vk r) : -5 ≤ (acA cs r kind x).1 ∧ (acA cs r kind x).1 ≤ 1000 := by
  obtain ⟨v1, v2, _, _, v3, v4, v5, v6, _⟩ := hV
  unfold acA
  split
  · rcases adA_o (cs := cs) (r := r) (x := x) with z | z | z | ⟨z, x0, x1, xt, z30⟩ <;> rw [z] <;> dsimp only <;> omega
  · split
    · unfold takeA
      split
      · dsimp only; omega
      · split <;> dsimp only <;> omega
    · split
      · unfold sideA
        split
        · dsimp only; omega
        · split <;> dsimp only <;> omega
      · split
        · unfold seedA
          split
          · dsimp only; omega
          · split <;> dsimp only <;> omega
        · rcases bdA_o (cs := cs) (r := r) with z | ⟨j, _, z⟩ <;> rw [z] <;> dsimp only <;> omega
end ACA
theorem RS.of {M M1 : gM} {st : Nat} {r r2 : Nat → Int} (h : RS M st r) (hT : Vt r) (k : Rk M1 st r2) (f : ∀ c, st + 2 ≤ c → c ≤ st + 6 → g_mi M1 c = g_mi M c) (e : ∀ i, 33 ≤ i → i < 187 → r2 i = r i) (e1 : r2 200 = r 200) (e2 : r2 201 = r 201) : RS M1 st r2 := by
  obtain ⟨_, h1, h2, h3⟩ := h
  refine ⟨k, by rw [f _ (by omega) (by omega), e1]; exact h1, by rw [f _ (by omega) (by omega), e2]; exact h2, Rt.cg hT e ?_⟩
  unfold Rt at h3 ⊢
  rw [f (st + 3) (by omega) (by omega), f (st + 3 + 1) (by omega) (by omega), f (st + 3 + 2) (by omega) (by omega), f (st + 3 + 3) (by omega) (by omega)]
  exact h3
section CA8
variable {N K A st : Nat} {r : Nat → Int} {cs : List (Nat × Cl)} {kind : Nat} {x : Int}
/-- the class carries out -/
theorem ca_8 {M : gM} {R : Int32 → gM → Prop} (hN : 500 ≤ N) (hV : Vk r) (hT : Vt r) (hm : Vm r) (hR : RS M st r) (ds : st + 6 < A + 271 ∨ A + 281 < st) (dA : st ≠ A + 1) (hF : FC M A (g_mi M (A + 1) 6) cs) (hk : kind ≤ 4) (x1 : -2147483648 ≤ x) (x2 : x < 2147483648) (hE : ∀ M1, Fca A st M M1 → RS M1 st (acA cs r kind x).2 → R (iZ (acA cs r kind x).1) M1) : pX8_carryOut N K M A st (iZ kind) (iZ x) R := by
  unfold pX8_carryOut
  have c0 : (iZ (kind : Int) = 0) = (kind = 0) := by rw [iZ_l0, iZ_eq (by omega) (by omega) (by omega) (by omega)]; exact propext ⟨fun _ => by omega, fun _ => by omega⟩
  have c1 : (iZ (kind : Int) = 1) = (kind = 1) := by rw [iZ_l1, iZ_eq (by omega) (by omega) (by omega) (by omega)]; exact propext ⟨fun _ => by omega, fun _ => by omega⟩
  have c2 : (iZ (kind : Int) = 2) = (kind = 2) := by rw [iZ_l2, iZ_eq (by omega) (by omega) (by omega) (by omega)]; exact propext ⟨fun _ => by omega, fun _ => by omega⟩
  have c3 : (iZ (kind : Int) = 3) = (kind = 3) := by rw [iZ_l3, iZ_eq (by omega) (by omega) (by omega) (by omega)]; exact propext ⟨fun _ => by omega, fun _ => by omega⟩
  rw [c0, c1, c2, c3]
  have hi := fun i (h : 188 ≤ i) => acA_hi (cs := cs) (kind := kind) (x := x) hV h
  have h200 := hi 200 (by omega)
  have h201 := hi 201 (by omega)
  refine ⟨fun z => ?_, fun z => ⟨fun z1 => ?_, fun z1 => ⟨fun z2 => ?_, fun z2 => ⟨fun z3 => ?_, fun z3 => ?_⟩⟩⟩⟩
  · have ea : acA cs r kind x = adA cs r x := by unfold acA; rw [if_pos z]
    rw [ea] at hE h200 h201
    refine ad_8 (cs := cs) hN hV hm hR.1 hR.2.2.1 (by omega) hF x1 x2 (fun M1 f1 k1 _ => ?_)
    refine hE M1 (fun c q1 q2 => f1 c (by omega) (by omega) (by omega) (by omega)) (hR.of hT k1 (fun c q1 q2 => f1 c (by omega) (by omega) (by omega) (by omega)) (fun i h1 h2 => ?_) h200 h201)
    rcases adA_o (cs := cs) (r := r) (x := x) with w | w | w | ⟨w, _, _, _, w30⟩ <;> rw [w]
    exact addR_hi hV w30 (by omega)
  · have ea : acA cs r kind x = takeA r x := by unfold acA; rw [if_neg z, if_pos z1]
    rw [ea] at hE h200 h201
    obtain ⟨t1, t2, t3, t4⟩ := take_8 (N := N) (k := x) (by omega) hV hR.1 x1 x2
    refine ⟨t1, fun v2 hv2 M2 h2 => ?_⟩
    rw [← h2] at t3 t4
    rw [hv2, t2]
    exact hE M2 (fun c q1 q2 => t4 c (by omega)) (hR.of hT t3 (fun c q1 q2 => t4 c (by omega)) (fun i h1 h2 => takeA_hi hV (by omega)) h200 h201)
  · have ea : acA cs r kind x = sideA r x := by unfold acA; rw [if_neg z, if_neg z1, if_pos z2]
    rw [ea] at hE h200 h201
    obtain ⟨t2, t3, t4⟩ := side_8 (x := x) hV hR.1 x1 x2
    intro v2 hv2 M2 h2
    rw [← h2] at t3 t4
    rw [hv2, t2]
    exact hE M2 (fun c q1 q2 => t4 c (by omega)) (hR.of hT t3 (fun c q1 q2 => t4 c (by omega)) (fun i h1 h2 => sideA_hi (by omega)) h200 h201)
  · have ea : acA cs r kind x = seedA r x := by unfold acA; rw [if_neg z, if_neg z1, if_neg z2, if_pos z3]
    rw [ea] at hE h200 h201
    obtain ⟨t2, t3, t4⟩ := seed_8 (x := x) hV hR.1 x1 x2
    intro v2 hv2 M2 h2
    rw [← h2] at t3 t4
    rw [hv2, t2]
    exact hE M2 (fun c q1 q2 => t4 c (by omega)) (hR.of hT t3 (fun c q1 q2 => t4 c (by omega)) (fun i h1 h2 => seedA_hi (by omega)) h200 h201)
  · have ea : acA cs r kind x = bdA cs r := by unfold acA; rw [if_neg z, if_neg z1, if_neg z2, if_neg z3]
    rw [ea] at hE
    exact bd_8 hN hV hm hR ds dA hF (fun M1 f1 k1 _ => hE M1 f1 k1)
end CA8
/-- counts of what was refused -/
def ixF (v : Int) : Nat := if v = -1 then 0 else if v = -2 then 1 else if v = -3 then 2 else if v = -5 then 3 else 4
def refU (f : Nat → Int32) (v : Int) : Nat → Int32 := va_up f (ixF v) (f (ixF v) + 1)
def Rfs (M : gM) (A : Nat) (f : Nat → Int32) : Prop := ∀ i, i < 5 → g_mi M (A + 304) i = f i
def Rfm (M : gM) (b : Nat) (f : Nat → Int32) : Prop := g_mi M (b + 1) 1 = f 0 ∧ g_mi M (b + 1) 2 = f 1 ∧ g_mi M (b + 1) 3 = f 2 ∧ g_mi M (b + 1) 5 = f 3 ∧ g_mi M (b + 1) 6 = f 4
def isR (v : Int) : Prop := v = -1 ∨ v = -2 ∨ v = -3 ∨ v = -5 ∨ v = -6
theorem Rfs.up {M M1 : gM} {A i : Nat} {f : Nat → Int32} (h : Rfs M A f) (h1 : M1 = g_wi M (A + 304) i (f i + 1)) : Rfs M1 A (va_up f i (f i + 1)) := fun j hj => by
  rw [h1, mi_wi]
  by_cases c : j = i
  · rw [if_pos ⟨rfl, c⟩, c, up_eq]
  · rw [if_neg (by omega), up_ne c]; exact h j hj
section RFU
variable {N K A b : Nat} {f : Nat → Int32} {v : Int}
theorem rf_8 {M : gM} {R : Int32 → gM → Prop} (hv : isR v) (h : Rfs M A f) (hE : ∀ M1, (∀ c j, (c ≠ A ∨ j ≠ 16) → c ≠ A + 304 → g_mi M1 c j = g_mi M c j) → g_mi M1 A 16 = iZ v → Rfs M1 A (refU f v) → R (iZ v) M1) : pX8_refuse N K M A (iZ v) R := by
  unfold pX8_refuse
  intro M1 h1
  obtain ⟨a1, a2, a3⟩ := wi_k h1
  have h2 : Rfs M1 A f := fun i hi => by rw [a1 _ (by omega)]; exact h i hi
  have go : ∀ (i : Nat) (M2 : gM), i < 5 → ixF v = i → M2 = g_wi M1 (A + 304) i (g_mi M1 (A + 304) i + 1) → R (iZ v) M2 := fun i M2 hi hx hm => by
    rw [h2 i hi] at hm
    have r2 := h2.up hm
    obtain ⟨b1, b2, b3⟩ := wi_k hm
    refine hE M2 (fun c j q1 q2 => ?_) (by rw [b1 A (by omega)]; exact a3) (by unfold refU; rw [hx]; exact r2)
    rw [b1 c q2]
    by_cases q : c = A
    · subst q; exact a2 j (by omega)
    · rw [a1 c q]
  unfold isR at hv
  have e : ∀ w : Int, -2147483648 ≤ w → w < 2147483648 → (iZ v = iZ w) = (v = w) := fun w w1 w2 => by rw [iZ_eq (by omega) (by omega) w1 w2]
  have e4 : (-4 : Int32) = iZ (-4) := by rw [iZ_l4, iZ_neg]
  have e2 : (-2 : Int32) = iZ (-2) := by rw [iZ_l2, iZ_neg]
  rw [iZ_n5, e4, iZ_m3, e2, iZ_n1, e (-5) (by omega) (by omega), e (-4) (by omega) (by omega), e (-3) (by omega) (by omega), e (-2) (by omega) (by omega), e (-1) (by omega) (by omega)]
  refine ⟨fun z M2 hm => go 3 M2 (by omega) (by unfold ixF; rw [if_neg (by omega), if_neg (by omega), if_neg (by omega), if_pos z]) hm, fun z => ⟨fun z2 => by omega, fun _ => ⟨fun z3 M2 hm => go 2 M2 (by omega) (by unfold ixF; rw [if_neg (by omega), if_neg (by omega), if_pos z3]) hm, fun z3 => ⟨fun z4 M2 hm => go 1 M2 (by omega) (by unfold ixF; rw [if_neg (by omega), if_pos z4]) hm, fun z4 => ⟨fun z5 M2 hm => go 0 M2 (by omega) (by unfold ixF; rw [if_pos z5]) hm, fun z5 M2 hm => go 4 M2 (by omega) (by unfold ixF; rw [if_neg z5, if_neg z4, if_neg z3, if_neg z]) hm⟩⟩⟩⟩⟩
theorem rf_9 {M : gM} {R : Int32 → gM → Prop} (hv : isR v) (h : Rfm M b f) (hE : ∀ M1, (∀ c j, (c ≠ b ∨ j ≠ 0) → c ≠ b + 1 → g_mi M1 c j = g_mi M c j) → g_mi M1 b 0 = iZ v → Rfm M1 b (refU f v) → R (iZ v) M1) : pX9_refuses N K M b (iZ v) R := by
  unfold pX9_refuses
  intro M1 h1
  obtain ⟨a1, a2, a3⟩ := wi_k h1
  obtain ⟨q1, q2, q3, q4, q5⟩ := h
  have k1 : g_mi M1 (b + 1) = g_mi M (b + 1) := a1 _ (by omega)
  have go : ∀ (i : Nat) (M2 : gM), i < 7 → -v = i → (M2 = g_wi M1 (b + 1) i (g_mi M1 (b + 1) i + 1) → Rfm M2 b (refU f v)) → M2 = g_wi M1 (b + 1) (iZ (i : Int)).toNatClampNeg (g_mi M1 (b + 1) (iZ (i : Int)).toNatClampNeg + 1) → R (iZ v) M2 := fun i M2 hi hx hr hm => by
    rw [iZ_cl (by omega)] at hm
    obtain ⟨b1, b2, b3⟩ := wi_k hm
    refine hE M2 (fun c j w1 w2 => ?_) (by rw [b1 b (by omega)]; exact a3) (hr hm)
    rw [b1 c w2]
    by_cases w : c = b
    · subst w; exact a2 j (by omega)
    · rw [a1 c w]
  unfold isR at hv
  rw [iZ_neg]
  rcases hv with z | z | z | z | z <;> subst z
  · refine ⟨iZ_in (by omega) (by omega) (by omega), fun M2 hm => go 1 M2 (by omega) (by omega) (fun hm => ?_) hm⟩
    obtain ⟨b1, b2, b3⟩ := wi_k hm
    rw [k1] at b2 b3
    exact ⟨by rw [b3, q1]; rfl, by rw [b2 2 (by omega)]; exact q2, by rw [b2 3 (by omega)]; exact q3, by rw [b2 5 (by omega)]; exact q4, by rw [b2 6 (by omega)]; exact q5⟩
  · refine ⟨iZ_in (by omega) (by omega) (by omega), fun M2 hm => go 2 M2 (by omega) (by omega) (fun hm => ?_) hm⟩
    obtain ⟨b1, b2, b3⟩ := wi_k hm
    rw [k1] at b2 b3
    exact ⟨by rw [b2 1 (by omega)]; exact q1, by rw [b3, q2]; rfl, by rw [b2 3 (by omega)]; exact q3, by rw [b2 5 (by omega)]; exact q4, by rw [b2 6 (by omega)]; exact q5⟩
  · refine ⟨iZ_in (by omega) (by omega) (by omega), fun M2 hm => go 3 M2 (by omega) (by omega) (fun hm => ?_) hm⟩
    obtain ⟨b1, b2, b3⟩ := wi_k hm
    rw [k1] at b2 b3
    exact ⟨by rw [b2 1 (by omega)]; exact q1, by rw [b2 2 (by omega)]; exact q2, by rw [b3, q3]; rfl, by rw [b2 5 (by omega)]; exact q4, by rw [b2 6 (by omega)]; exact q5⟩
  · refine ⟨iZ_in (by omega) (by omega) (by omega), fun M2 hm => go 5 M2 (by omega) (by omega) (fun hm => ?_) hm⟩
    obtain ⟨b1, b2, b3⟩ := wi_k hm
    rw [k1] at b2 b3
    exact ⟨by rw [b2 1 (by omega)]; exact q1, by rw [b2 2 (by omega)]; exact q2, by rw [b2 3 (by omega)]; exact q3, by rw [b3, q4]; rfl, by rw [b2 6 (by omega)]; exact q5⟩
  · refine ⟨iZ_in (by omega) (by omega) (by omega), fun M2 hm => go 6 M2 (by omega) (by omega) (fun hm => ?_) hm⟩
    obtain ⟨b1, b2, b3⟩ := wi_k hm
    rw [k1] at b2 b3
    exact ⟨by rw [b2 1 (by omega)]; exact q1, by rw [b2 2 (by omega)]; exact q2, by rw [b2 3 (by omega)]; exact q3, by rw [b2 5 (by omega)]; exact q4, by rw [b3, q5]; rfl⟩
end RFU
