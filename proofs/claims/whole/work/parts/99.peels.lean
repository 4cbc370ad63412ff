/-! Peeling by ranks, both programs whole. -/
abbrev pelR (cs : List (Nat × Cl)) (r : Nat → Int) (s : Int) : List (Nat × Nat) := pel (vtR r s (r 31)) (r 0).toNat (3 * r 31).toNat (rkF cs r s) (r 0).toNat (fun _ => true)
def Fpl (a : Nat) (M M1 : gM) : Prop := ∀ c, (c + 3 < a ∨ a + 7 < c) → g_mi M1 c = g_mi M c
theorem rkF_b {cs : List (Nat × Cl)} {r : Nat → Int} {s : Int} {v : Nat} : 0 ≤ rkF cs r s v ∧ rkF cs r s v ≤ 99 := tlL_b (by omega) (by omega)
section PW8
variable {N K a st tx n1 m1 : Nat} {r : Nat → Int} {s : Int} {cs : List (Nat × Cl)}
theorem cr_loop {M0 : gM} {R : gM → Prop} (hN : 500 ≤ N) (ha : 3 ≤ a) (hV : Vk r) (hm : Vm r) (hR : Rk M0 st r) (h2 : g_mi M0 (st + 2) 2 = iZ (r 201)) (hT : Te M0 tx n1 m1 Wl cs) (hc : ∀ c ∈ cs, Clb false c.2) (s0 : 0 ≤ s) (s1 : s ≤ 255) (dt : a + 7 < tx) (ds : st + 5 < a ∨ a + 7 < st) (hP : Pv M0 (a + 1) (vtR r s (r 31)) (r 0).toNat) (hD : Pd M0 a (vtR r s (r 31)) (r 0).toNat (fun _ => true)) (hE : ∀ M1, Fpl a M0 M1 → g_mi M1 a 8 = iZ (pelR cs r s).length → Lp M1 a 0 (pelR cs r s) → Pv M1 (a + 1) (vtR r s (r 31)) (r 0).toNat → R M1) : ∀ (e u n : Nat) (M : gM), u + e = (3 * r 31).toNat → e + 100 ≤ n → (∀ c, c ≠ a + 6 → c ≠ a - 3 + 1 → c ≠ a - 3 + 2 → g_mi M c = g_mi M0 c) → (∀ v, v < u → g_mi M (a + 6) v = iZ (rkF cs r s v)) → qX1_peel N K R n 0 M a st (iZ s) tx n1 m1 (iZ u) := by
  have m0 := hV.1
  have m2 := hV.2.1
  have d0 := hV.2.2.2.2.1
  have d1 := hV.2.2.2.2.2.1
  have hVd := vtR_V (s := s) hV d0 d1
  have stk : ∀ M : gM, (∀ c, c ≠ a + 6 → c ≠ a - 3 + 1 → c ≠ a - 3 + 2 → g_mi M c = g_mi M0 c) → Rk M st r ∧ g_mi M (st + 2) 2 = iZ (r 201) := fun M f => by
    unfold Rk
    rw [f st (by omega) (by omega) (by omega), f (st + 1) (by omega) (by omega) (by omega), f (st + 2) (by omega) (by omega) (by omega)]
    exact ⟨hR, h2⟩
  intro e
  induction e with
  | zero =>
    intro u n M hu hn f hz
    obtain ⟨n2, rfl⟩ : ∃ n2, n = n2 + 1 := ⟨n - 1, by omega⟩
    obtain ⟨R2, _⟩ := stk M f
    rw [qX1_peel, if_pos rfl]
    unfold pX1_peel_13
    have c1 : (3 : Int32) * g_mi M st 4 ≤ iZ (u : Int) := by rw [R2.2.2.1, iZ_l3, iZ_mul, iZ_le (by omega) (by omega) (by omega) (by omega)]; omega
    refine ⟨fun _ M1 h1 => ?_, fun z => absurd c1 z⟩
    have k1 : ∀ c j, (c ≠ a ∨ j ≠ 8) → g_mi M1 c j = g_mi M c j := fun c j q => by rw [h1, mi_wi, if_neg (by omega)]
    have P1 : Pv M1 (a + 1) (vtR r s (r 31)) (r 0).toNat := fun k i q1 q2 => by rw [k1 _ _ (by omega), f _ (by omega) (by omega) (by omega)]; exact hP k i q1 q2
    have D1 : Pd M1 a (vtR r s (r 31)) (r 0).toNat (fun _ => true) := fun v hv => by rw [k1 _ _ (by omega), k1 _ _ (by omega), f _ (by omega) (by omega) (by omega), f _ (by omega) (by omega) (by omega)]; exact hD v hv
    refine cp_loop (M0 := M1) (rk := rkF cs r s) (d := r 31) hN hVd (by omega) ?_ ?_ (by omega) (fun v hv => ⟨?_, rkF_b⟩) (r 0).toNat 0 n2 M1 (fun _ => true) (by omega) (by omega) (fun _ _ _ _ _ _ _ _ => rfl) P1 D1 Run.start cnt_all (by rw [h1, mi_wi, if_pos ⟨rfl, rfl⟩]; rfl) (fun M2 f2 e2 _ l2 => hE M2 (fun c q => ?_) ?_ l2 (fun k i q1 q2 => ?_))
    · rw [k1 _ _ (by omega), R2.1]; congr 1; omega
    · rw [k1 _ _ (by omega)]; exact R2.2.2.1
    · rw [k1 _ _ (by omega)]; exact hz v (by omega)
    · funext j
      rw [f2 c j (by omega) (by omega) (by omega) (by omega) (by omega) (by omega), k1 _ _ (by omega), f c (by omega) (by omega) (by omega)]
    · rw [e2, Nat.zero_add]
    · rw [f2 _ _ (by omega) (by omega) (by omega) (by omega) (by omega) (by omega)]; exact P1 k i q1 q2
  | succ e ih =>
    intro u n M hu hn f hz
    obtain ⟨n2, rfl⟩ : ∃ n2, n = n2 + 1 := ⟨n - 1, by omega⟩
    obtain ⟨R2, R3⟩ := stk M f
    rw [qX1_peel, if_pos rfl]
    unfold pX1_peel_13
    have c1 : ¬ (3 : Int32) * g_mi M st 4 ≤ iZ (u : Int) := by rw [R2.2.2.1, iZ_l3, iZ_mul, iZ_le (by omega) (by omega) (by omega) (by omega)]; omega
    have vu : vp_in (iZ (u : Int)) 60 := iZ_in (by omega) (by omega) (by omega)
    rw [iZ_cl (show u < 2147483648 by omega), f (a + 4) (by omega) (by omega) (by omega), (hD u (by omega)).1, dg_dg hV d0 d1, iZ_s1]
    refine ⟨fun z => absurd z c1, fun _ => ⟨vu, ?_⟩⟩
    refine rk_ok (cs := cs) hN hV hm R2 R3 (hT.keep (fun c q1 q2 => f c (by omega) (by omega) (by omega))) hc s0 s1 (by omega) (by omega) (by omega) (fun M2 f2 => ⟨vu, fun M3 h3 => ?_⟩)
    refine ih (u + 1) n2 M3 (by omega) (by omega) (fun c q1 q2 q3 => ?_) (fun v hv => ?_)
    · have : g_mi M3 c = g_mi M2 c := by funext j; rw [h3, mi_wi, if_neg (by omega)]
      rw [this, f2 c q2 q3]; exact f c q1 q2 q3
    · rcases Nat.lt_or_ge v u with z | z
      · rw [h3, mi_wi, if_neg (by omega), f2 _ (by omega) (by omega)]; exact hz v z
      · rw [h3, mi_wi, if_pos ⟨rfl, by omega⟩, show v = u by omega]
/-- the class has peeled -/
theorem pl_ok {M : gM} {R : gM → Prop} (hN : 500 ≤ N) (ha : 3 ≤ a) (hV : Vk r) (hm : Vm r) (hR : Rk M st r) (h2 : g_mi M (st + 2) 2 = iZ (r 201)) (hT : Te M tx n1 m1 Wl cs) (hc : ∀ c ∈ cs, Clb false c.2) (s0 : 0 ≤ s) (s1 : s ≤ 255) (dt : a + 7 < tx) (ds : st + 5 < a ∨ a + 7 < st) (hE : ∀ M1, Fpl a M M1 → g_mi M1 a 8 = iZ (pelR cs r s).length → Lp M1 a 0 (pelR cs r s) → Pv M1 (a + 1) (vtR r s (r 31)) (r 0).toNat → R M1) : pX1_peel N K M a st (iZ s) tx n1 m1 R := by
  have d0 := hV.2.2.2.2.1
  have d1 := hV.2.2.2.2.2.1
  unfold pX1_peel pX1_peel_0
  rw [hR.2.2.1]
  refine lay_ok hN hV hR s0 s1 d0 d1 (by omega) (fun M1 f1 P1 D1 => ?_)
  have fp : Fpl a M M1 := fun c q => f1 c (by omega) (by omega) (by omega)
  refine cr_loop (M0 := M1) hN ha hV hm (hR.fl f1 (by omega)) (by rw [f1 _ (by omega) (by omega) (by omega)]; exact h2) (hT.keep (fun c q1 q2 => f1 c (by omega) (by omega) (by omega))) hc s0 s1 dt ds P1 D1 (fun M2 f2 => hE M2 (fun c q => (f2 c q).trans (fp c q))) (3 * r 31).toNat 0 N M1 (by omega) (by omega) (fun _ _ _ _ => rfl) (fun v hv => by omega)
end PW8
section PW9
variable {N K b : Nat} {r : Nat → Int} {s : Int} {cs : List (Nat × Cl)}
def Far (b : Nat) (M M1 : gM) : Prop := ∀ c j, c ≠ b + 12 → c ≠ b + 15 → (c ≠ b ∨ (j ≠ 22 ∧ j ≠ 23 ∧ j ≠ 24 ∧ j ≠ 25)) → g_mi M1 c j = g_mi M c j
theorem lr_loop {M0 : gM} {R : gM → Prop} (hN : 500 ≤ N) (hK : 500 ≤ K) (hV : Vk r) (hm : Vm r) (hR : Rr M0 b r) (hF : FL r cs) (s0 : 0 ≤ s) (s1 : s ≤ 255) (hE : ∀ M1, Far b M0 M1 → (∀ v : Nat, (v : Int) < 3 * r 31 → g_mi M1 (b + 15) v = iZ (rkF cs r s v)) → R M1) : ∀ (e u n : Nat) (M : gM), u + e = (3 * r 31).toNat → e + 1 ≤ n → Far b M0 M → (∀ v, v < u → g_mi M (b + 15) v = iZ (rkF cs r s v)) → qX9_laysRanks N K R n 0 M b (iZ s) (iZ u) := by
  have d0 := hV.2.2.2.2.1
  have d1 := hV.2.2.2.2.2.1
  intro e
  induction e with
  | zero =>
    intro u n M hu hn f hz
    obtain ⟨n2, rfl⟩ : ∃ n2, n = n2 + 1 := ⟨n - 1, by omega⟩
    have R2 : Rr M b r := fun j hj => by rw [f _ _ (by omega) (by omega) (by omega)]; exact hR j hj
    rw [qX9_laysRanks]
    unfold pX9_laysRanks_2
    intro v1 hv1
    unfold fX9_vertexMany at hv1
    rw [R2 31 (by omega), iZ_l3, iZ_mul] at hv1
    subst hv1
    have c1 : iZ (3 * r 31) ≤ iZ (u : Int) := by rw [iZ_le (by omega) (by omega) (by omega) (by omega)]; omega
    exact ⟨fun _ => hE M f (fun v hv => hz v (by omega)), fun z => absurd c1 z⟩
  | succ e ih =>
    intro u n M hu hn f hz
    obtain ⟨n2, rfl⟩ : ∃ n2, n = n2 + 1 := ⟨n - 1, by omega⟩
    have R2 : Rr M b r := fun j hj => by rw [f _ _ (by omega) (by omega) (by omega)]; exact hR j hj
    rw [qX9_laysRanks]
    unfold pX9_laysRanks_2
    intro v1 hv1
    unfold fX9_vertexMany at hv1
    rw [R2 31 (by omega), iZ_l3, iZ_mul] at hv1
    subst hv1
    have c1 : ¬ iZ (3 * r 31) ≤ iZ (u : Int) := by rw [iZ_le (by omega) (by omega) (by omega) (by omega)]; omega
    refine ⟨fun z => absurd z c1, fun _ => ?_⟩
    refine ro_ok hN hK hV hm R2 hF s0 s1 (by omega) (fun M1 f1 => ⟨iZ_in (by omega) (by omega) (by omega), fun M2 h2 => ?_⟩)
    rw [iZ_cl (show u < 2147483648 by omega)] at h2
    rw [iZ_s1]
    refine ih (u + 1) n2 M2 (by omega) (by omega) (fun c j q1 q2 q3 => ?_) (fun v hv => ?_)
    · rw [h2, mi_wi, if_neg (by omega), f1 c j q1 q3]; exact f c j q1 q2 q3
    · rcases Nat.lt_or_ge v u with z | z
      · rw [h2, mi_wi, if_neg (by omega), f1 _ _ (by omega) (by omega)]; exact hz v z
      · rw [h2, mi_wi, if_pos ⟨rfl, by omega⟩, show v = u by omega]
theorem lr_ok {M : gM} {R : gM → Prop} (hN : 500 ≤ N) (hK : 500 ≤ K) (hV : Vk r) (hm : Vm r) (hR : Rr M b r) (hF : FL r cs) (s0 : 0 ≤ s) (s1 : s ≤ 255) (hE : ∀ M1, Far b M M1 → (∀ v : Nat, (v : Int) < 3 * r 31 → g_mi M1 (b + 15) v = iZ (rkF cs r s v)) → R M1) : pX9_laysRanks N K M b (iZ s) R := by
  have d1 := hV.2.2.2.2.2.1
  unfold pX9_laysRanks pX9_laysRanks_0
  exact lr_loop hN hK hV hm hR hF s0 s1 hE (3 * r 31).toNat 0 N M (by omega) (by omega) (fun _ _ _ _ _ => rfl) (fun v hv => by omega)
/-- ranks laid and peeled, by the reference -/
def Fap (b : Nat) (M M1 : gM) : Prop := ∀ c j, (c < b + 12 ∨ b + 18 < c) → (c ≠ b ∨ (j ≠ 22 ∧ j ≠ 23 ∧ j ≠ 24 ∧ j ≠ 25 ∧ j ≠ 35)) → g_mi M1 c j = g_mi M c j
theorem lp_ok {M : gM} {R : gM → Prop} (hN : 500 ≤ N) (hK : 500 ≤ K) (hV : Vk r) (hm : Vm r) (hR : Rr M b r) (hF : FL r cs) (s0 : 0 ≤ s) (s1 : s ≤ 255) (hE : ∀ M1, Fap b M M1 → g_mi M1 b 35 = iZ (r 0 - (pelR cs r s).length) → Lm M1 b 0 r (pelR cs r s) → R M1) : pX9_laysRanks N K M b (iZ s) (fun M1 => pX9_peels N K M1 b (iZ s) R) := by
  refine lr_ok hN hK hV hm hR hF s0 s1 (fun M1 f1 r1 => ?_)
  refine mp_ok (rk := rkF cs r s) hN hV s0 s1 (fun j hj => by rw [f1 _ _ (by omega) (by omega) (by omega)]; exact hR j hj) (fun v hv => ⟨r1 v hv, rkF_b⟩) (fun M2 f2 e2 l2 => hE M2 (fun c j q1 q2 => ?_) e2 l2)
  rw [f2 c j (by omega) (by omega) (by omega) (by omega) (by omega) (by omega)]
  exact f1 c j (by omega) (by omega) (by omega)
end PW9
