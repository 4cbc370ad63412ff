/-! Ranks and bars, both programs. -/
def Fw (su : Nat) (M M1 : gM) : Prop := ∀ c, c ≠ su + 1 → c ≠ su + 2 → g_mi M1 c = g_mi M c
theorem Fw.tr {su : Nat} {M M1 M2 : gM} (h : Fw su M M1) (h2 : Fw su M1 M2) : Fw su M M2 := fun c q1 q2 => (h2 c q1 q2).trans (h c q1 q2)
theorem ic_hv {r : Nat → Int} {s d : Int} {k v : Nat} (hV : Vk r) (d0 : 2 ≤ d) (d1 : d ≤ 20) : ic (vtR r s d) k v = hv (r (1 + k)) v s d := by
  have q0 := vtR_i (r := r) (s := s) (k := k) hV d0 d1 (show (0 : Nat) < 3 by omega)
  have q1 := vtR_i (r := r) (s := s) (k := k) hV d0 d1 (show (1 : Nat) < 3 by omega)
  have q2 := vtR_i (r := r) (s := s) (k := k) hV d0 d1 (show (2 : Nat) < 3 by omega)
  have e0 : (vtR r s d k 0 = v) = (vx (r (1 + k)) 0 s d = v) := by
    rw [show (0 : Int) = ((0 : Nat) : Int) from rfl, ← q0]; exact propext ⟨fun z => by omega, fun z => by omega⟩
  have e1 : (vtR r s d k 1 = v) = (vx (r (1 + k)) 1 s d = v) := by
    rw [show (1 : Int) = ((1 : Nat) : Int) from rfl, ← q1]; exact propext ⟨fun z => by omega, fun z => by omega⟩
  have e2 : (vtR r s d k 2 = v) = (vx (r (1 + k)) 2 s d = v) := by
    rw [show (2 : Int) = ((2 : Nat) : Int) from rfl, ← q2]; exact propext ⟨fun z => by omega, fun z => by omega⟩
  unfold ic hv
  simp only [e0, e1, e2]
theorem dg_dg {r : Nat → Int} {s d : Int} {v : Nat} (hV : Vk r) (d0 : 2 ≤ d) (d1 : d ≤ 20) : dgS (vtR r s d) (r 0).toNat (fun _ => true) v = dg r v s d := by
  unfold dgS dg
  refine cnt_congr (fun i hi => ?_)
  unfold pS
  rw [Bool.true_and]
  exact ic_hv hV d0 d1
/-- a vertex's rank; whether a key is barred -/
def rkF (cs : List (Nat × Cl)) (r : Nat → Int) (s : Int) (v : Nat) : Int := tlL 1 (eL v ((v : Int).tdiv (r 31)) (-1) s (r 201) (dg r v s (r 31)) (r 187)) cs 0
def baF (cs : List (Nat × Cl)) (r : Nat → Int) (k : Int) : Int := tlL 2 (eL (-1) (-1) k (r 32) (r 201) (-1) (r 187)) cs 0
theorem baF_b {cs : List (Nat × Cl)} {r : Nat → Int} {k : Int} : baF cs r k = 0 ∨ baF cs r k = 1 := by
  have : ∀ (l : List (Nat × Cl)) (e : En) (x : Int), (x = 0 ∨ x = 1) → tlL 2 e l x = 0 ∨ tlL 2 e l x = 1 := by
    intro l e
    induction l with
    | nil => intro x hx; exact hx
    | cons c l ih =>
      intro x hx
      refine ih (tlC 2 e x c) ?_
      unfold tlC svC
      split
      · rename_i q; rw [if_pos q.1]; exact Or.inr rfl
      · exact hx
  exact this _ _ _ (Or.inl rfl)
/-- mood and time -/
def Vm (r : Nat → Int) : Prop := bd9 (r 201)
theorem td_b {v : Nat} {d : Int} (hv : v < 60) : bd9 ((v : Int).tdiv d) := by
  have h := tdiv_b (x := (v : Int)) (y := d)
  by_cases c : d = 0
  · rw [c, Int.tdiv_zero]; unfold bd9; omega
  · have := h c
    rw [if_pos (by omega)] at this
    unfold bd9
    omega
theorem env_r {r : Nat → Int} {s : Int} {v : Nat} (hV : Vk r) (hm : Vm r) (s0 : 0 ≤ s) (s1 : s ≤ 255) (hv : v < 60) : Eb (eL v ((v : Int).tdiv (r 31)) (-1) s (r 201) (dg r v s (r 31)) (r 187)) := by
  have h1 := hV.1
  have h2 := hV.2.1
  have h3 := hV.2.2.2.2.2.2.2.2
  have dl : dg r v s (r 31) ≤ (r 0).toNat := cnt_le _ _
  exact eL_b (by unfold bd9; omega) (td_b hv) (by unfold bd9; omega) (by unfold bd9; omega) hm (by unfold bd9; omega) (by unfold bd9; omega)
theorem env_k {r : Nat → Int} {k : Int} (hV : Vk r) (hm : Vm r) (hk : bd9 k) : Eb (eL (-1) (-1) k (r 32) (r 201) (-1) (r 187)) := by
  have h1 := hV.2.2.2.2.2.2.1
  have h2 := hV.2.2.2.2.2.2.2.1
  have h3 := hV.2.2.2.2.2.2.2.2
  exact eL_b (by unfold bd9; omega) (by unfold bd9; omega) hk (by unfold bd9; omega) hm (by unfold bd9; omega) (by unfold bd9; omega)
section RK8
variable {N K su st tx n1 m1 : Nat} {r : Nat → Int} {s : Int} {cs : List (Nat × Cl)}
theorem rk_ok {M : gM} {R : Int32 → gM → Prop} {v : Nat} (hN : 500 ≤ N) (hV : Vk r) (hm : Vm r) (hR : Rk M st r) (h2 : g_mi M (st + 2) 2 = iZ (r 201)) (hT : Te M tx n1 m1 Wl cs) (hc : ∀ c ∈ cs, Clb false c.2) (s0 : 0 ≤ s) (s1 : s ≤ 255) (hv : v < 60) (d1 : tx + 6 < su ∨ su + 2 < tx) (d2 : st + 2 < su ∨ su + 2 < st) (hE : ∀ M1, Fw su M M1 → R (iZ (rkF cs r s v)) M1) : pX4_rankOf N K M su tx n1 m1 st (iZ s) (iZ v) (iZ ((dg r v s (r 31) : Nat) : Int)) R := by
  have hd0 := hV.2.2.2.2.1
  have hd1 := hV.2.2.2.2.2.1
  unfold pX4_rankOf pX4_rankOf_0 pX4_tellLaw
  intro M1 e1 M2 e2 M3 e3 M4 e4
  have k1 : ∀ c j, c ≠ su + 1 → g_mi M1 c j = g_mi M c j := fun c j q => by rw [e1, mi_wi, if_neg (by omega)]
  have k2 : ∀ c j, c ≠ su + 1 → g_mi M2 c j = g_mi M c j := fun c j q => by rw [e2, mi_wi, if_neg (by omega)]; exact k1 c j q
  have k4 : ∀ c j, c ≠ su + 1 → g_mi M4 c j = g_mi M c j := fun c j q => by rw [e4, mi_wi, if_neg (by omega), e3, mi_wi, if_neg (by omega)]; exact k2 c j q
  rw [k1 _ _ (by omega), hR.2.2.2.2] at e2
  rw [k2 _ _ (by omega), h2] at e3
  rw [k4 _ _ (by omega), hR.2.2.1]
  have c1 : ¬ iZ (r 31) ≤ 0 := by rw [iZ_l0, iZ_le (by omega) (by omega) (by omega) (by omega)]; omega
  have c2 : ¬ iZ (r 31) = 0 := by rw [iZ_l0, iZ_eq (by omega) (by omega) (by omega) (by omega)]; omega
  refine ⟨fun z => absurd z c1, fun _ => ⟨c2, fun M6 e6 M7 e7 M8 e8 => ?_⟩⟩
  rw [iZ_div (by omega) (by omega) (by omega) (by omega)] at e6
  have g : ∀ c j, g_mi M8 c j = if c = su + 1 ∧ j = 2 then -1 else if c = su + 1 ∧ j = 5 then iZ ((dg r v s (r 31) : Nat) : Int) else if c = su + 1 ∧ j = 1 then iZ ((v : Int).tdiv (r 31)) else if c = su + 1 ∧ j = 0 then iZ v else if c = su + 1 ∧ j = 4 then iZ (r 201) else if c = su + 1 ∧ j = 6 then iZ (r 187) else if c = su + 1 ∧ j = 3 then iZ s else g_mi M c j := fun c j => by rw [e8, mi_wi, e7, mi_wi, e6, mi_wi, e4, mi_wi, e3, mi_wi, e2, mi_wi, e1, mi_wi]
  have k8 : ∀ c, c ≠ su + 1 → g_mi M8 c = g_mi M c := fun c q => by funext j; rw [g, if_neg (by omega), if_neg (by omega), if_neg (by omega), if_neg (by omega), if_neg (by omega), if_neg (by omega), if_neg (by omega)]
  refine ck_loop (M0 := M8) hN (hT.keep (fun c q1 q2 => k8 c (by omega))) hc ⟨env_r hV hm s0 s1 hv, eL_w ?_ ?_ ?_ ?_ ?_ ?_ ?_⟩ d1 cs.length 0 N M8 0 (by omega) (by have := hT.2.1; omega) (fun _ _ => rfl) (by omega) (by omega) (fun M9 f9 => ?_)
  · rw [g, if_neg (by omega), if_neg (by omega), if_neg (by omega), if_pos ⟨rfl, rfl⟩]
  · rw [g, if_neg (by omega), if_neg (by omega), if_pos ⟨rfl, rfl⟩]
  · rw [g, if_pos ⟨rfl, rfl⟩]; rfl
  · rw [g, if_neg (by omega), if_neg (by omega), if_neg (by omega), if_neg (by omega), if_neg (by omega), if_neg (by omega), if_pos ⟨rfl, rfl⟩]
  · rw [g, if_neg (by omega), if_neg (by omega), if_neg (by omega), if_neg (by omega), if_pos ⟨rfl, rfl⟩]
  · rw [g, if_neg (by omega), if_pos ⟨rfl, rfl⟩]
  · rw [g, if_neg (by omega), if_neg (by omega), if_neg (by omega), if_neg (by omega), if_neg (by omega), if_pos ⟨rfl, rfl⟩]
  · exact hE M9 (fun c q1 q2 => (f9 c q2).trans (k8 c q1))
/-- barred by the law, in the class -/
theorem ba_ok {M : gM} {R : Int32 → gM → Prop} {k : Int} (hN : 500 ≤ N) (hV : Vk r) (hm : Vm r) (hR : Rk M st r) (h2 : g_mi M (st + 2) 2 = iZ (r 201)) (hT : Te M tx n1 m1 Wl cs) (hc : ∀ c ∈ cs, Clb false c.2) (hk : bd9 k) (d1 : tx + 6 < su ∨ su + 2 < tx) (d2 : st + 2 < su ∨ su + 2 < st) (hE : ∀ M1, Fw su M M1 → R (iZ (baF cs r k)) M1) : pX4_isBarred N K M su tx n1 m1 st (iZ k) R := by
  unfold pX4_isBarred pX4_isBarred_0 pX4_tellLaw
  intro M1 e1 M2 e2 M3 e3 M4 e4 M5 e5 M6 e6 M7 e7
  have k1 : ∀ c j, c ≠ su + 1 → g_mi M1 c j = g_mi M c j := fun c j q => by rw [e1, mi_wi, if_neg (by omega)]
  have k2 : ∀ c j, c ≠ su + 1 → g_mi M2 c j = g_mi M c j := fun c j q => by rw [e2, mi_wi, if_neg (by omega)]; exact k1 c j q
  rw [hR.2.2.2.1] at e1
  rw [k1 _ _ (by omega), hR.2.2.2.2] at e2
  rw [k2 _ _ (by omega), h2] at e3
  have g : ∀ c j, g_mi M7 c j = if c = su + 1 ∧ j = 2 then iZ k else if c = su + 1 ∧ j = 5 then -1 else if c = su + 1 ∧ j = 1 then -1 else if c = su + 1 ∧ j = 0 then -1 else if c = su + 1 ∧ j = 4 then iZ (r 201) else if c = su + 1 ∧ j = 6 then iZ (r 187) else if c = su + 1 ∧ j = 3 then iZ (r 32) else g_mi M c j := fun c j => by rw [e7, mi_wi, e6, mi_wi, e5, mi_wi, e4, mi_wi, e3, mi_wi, e2, mi_wi, e1, mi_wi]
  have k8 : ∀ c, c ≠ su + 1 → g_mi M7 c = g_mi M c := fun c q => by funext j; rw [g, if_neg (by omega), if_neg (by omega), if_neg (by omega), if_neg (by omega), if_neg (by omega), if_neg (by omega), if_neg (by omega)]
  refine cb_loop (M0 := M7) hN (hT.keep (fun c q1 q2 => k8 c (by omega))) hc ⟨env_k hV hm hk, eL_w ?_ ?_ ?_ ?_ ?_ ?_ ?_⟩ d1 cs.length 0 N M7 (by omega) (by have := hT.2.1; omega) (fun _ _ => rfl) (fun M9 f9 => ?_)
  · rw [g, if_neg (by omega), if_neg (by omega), if_neg (by omega), if_pos ⟨rfl, rfl⟩]; rfl
  · rw [g, if_neg (by omega), if_neg (by omega), if_pos ⟨rfl, rfl⟩]; rfl
  · rw [g, if_pos ⟨rfl, rfl⟩]
  · rw [g, if_neg (by omega), if_neg (by omega), if_neg (by omega), if_neg (by omega), if_neg (by omega), if_neg (by omega), if_pos ⟨rfl, rfl⟩]
  · rw [g, if_neg (by omega), if_neg (by omega), if_neg (by omega), if_neg (by omega), if_pos ⟨rfl, rfl⟩]
  · rw [g, if_neg (by omega), if_pos ⟨rfl, rfl⟩]; rfl
  · rw [g, if_neg (by omega), if_neg (by omega), if_neg (by omega), if_neg (by omega), if_neg (by omega), if_pos ⟨rfl, rfl⟩]
  · exact hE M9 (fun c q1 q2 => (f9 c q2).trans (k8 c q1))
end RK8
section RK9
variable {N K b : Nat} {r : Nat → Int} {s : Int} {cs : List (Nat × Cl)}
def Fa9 (b : Nat) (M M1 : gM) : Prop := ∀ c j, c ≠ b + 12 → (c ≠ b ∨ (j ≠ 22 ∧ j ≠ 23 ∧ j ≠ 24 ∧ j ≠ 25)) → g_mi M1 c j = g_mi M c j
theorem sa_ok {M : gM} {R : gM → Prop} {v p k sd dv : Int} (hR : Rr M b r) (hE : ∀ M1, (∀ c j, c ≠ b + 12 → g_mi M1 c j = g_mi M c j) → (∀ j : Nat, j < 7 → g_mi M1 (b + 12) j = iZ (eL v p k sd (r 201) dv (r 187) (7 + j) 0)) → R M1) : pX9_setsAsked N K M b (iZ v) (iZ p) (iZ k) (iZ sd) (iZ dv) R := by
  unfold pX9_setsAsked
  intro M1 e1 M2 e2 M3 e3 M4 e4 M5 e5 M6 e6 M7 e7
  have k4 : ∀ c j, c ≠ b + 12 → g_mi M4 c j = g_mi M c j := fun c j q => by rw [e4, mi_wi, if_neg (by omega), e3, mi_wi, if_neg (by omega), e2, mi_wi, if_neg (by omega), e1, mi_wi, if_neg (by omega)]
  have k6 : ∀ c j, c ≠ b + 12 → g_mi M6 c j = g_mi M c j := fun c j q => by rw [e6, mi_wi, if_neg (by omega), e5, mi_wi, if_neg (by omega)]; exact k4 c j q
  rw [k4 _ _ (by omega), hR 201 (by omega)] at e5
  rw [k6 _ _ (by omega), hR 187 (by omega)] at e7
  have g : ∀ c j, g_mi M7 c j = if c = b + 12 ∧ j = 6 then iZ (r 187) else if c = b + 12 ∧ j = 5 then iZ dv else if c = b + 12 ∧ j = 4 then iZ (r 201) else if c = b + 12 ∧ j = 3 then iZ sd else if c = b + 12 ∧ j = 2 then iZ k else if c = b + 12 ∧ j = 1 then iZ p else if c = b + 12 ∧ j = 0 then iZ v else g_mi M c j := fun c j => by rw [e7, mi_wi, e6, mi_wi, e5, mi_wi, e4, mi_wi, e3, mi_wi, e2, mi_wi, e1, mi_wi]
  refine hE M7 (fun c j q => by rw [g, if_neg (by omega), if_neg (by omega), if_neg (by omega), if_neg (by omega), if_neg (by omega), if_neg (by omega), if_neg (by omega)]) (eL_w ?_ ?_ ?_ ?_ ?_ ?_ ?_)
  · rw [g, if_neg (by omega), if_neg (by omega), if_neg (by omega), if_neg (by omega), if_neg (by omega), if_neg (by omega), if_pos ⟨rfl, rfl⟩]
  · rw [g, if_neg (by omega), if_neg (by omega), if_neg (by omega), if_neg (by omega), if_neg (by omega), if_pos ⟨rfl, rfl⟩]
  · rw [g, if_neg (by omega), if_neg (by omega), if_neg (by omega), if_neg (by omega), if_pos ⟨rfl, rfl⟩]
  · rw [g, if_neg (by omega), if_neg (by omega), if_neg (by omega), if_pos ⟨rfl, rfl⟩]
  · rw [g, if_neg (by omega), if_neg (by omega), if_pos ⟨rfl, rfl⟩]
  · rw [g, if_neg (by omega), if_pos ⟨rfl, rfl⟩]
  · rw [g, if_pos ⟨rfl, rfl⟩]
theorem ro_ok {M : gM} {R : Int32 → gM → Prop} {v : Nat} (hN : 500 ≤ N) (hK : 500 ≤ K) (hV : Vk r) (hm : Vm r) (hR : Rr M b r) (hF : FL r cs) (s0 : 0 ≤ s) (s1 : s ≤ 255) (hv : v < 60) (hE : ∀ M1, Fa9 b M M1 → R (iZ (rkF cs r s v)) M1) : pX9_ranksOf N K M b (iZ v) (iZ s) R := by
  have hd0 := hV.2.2.2.2.1
  have hd1 := hV.2.2.2.2.2.1
  unfold pX9_ranksOf
  have d9 := dg_9 (N := N) (v := (v : Int)) (s := s) (by omega) hV hR (by omega) (by omega) s0 s1
  rw [hR 31 (by omega)]
  have c2 : ¬ iZ (r 31) = 0 := by rw [iZ_l0, iZ_eq (by omega) (by omega) (by omega) (by omega)]; omega
  refine ⟨c2, d9.1, fun v1 hv1 => ?_⟩
  rw [d9.2] at hv1
  subst hv1
  rw [iZ_div (by omega) (by omega) (by omega) (by omega), iZ_n1]
  refine sa_ok hR (fun M1 f1 a1 => ?_)
  refine mt_ok (x := 1) (Or.inl rfl) hN hK (fun i hi => by rw [f1 _ _ (by omega)]; exact hR i hi) hF a1 (env_r hV hm s0 s1 hv) (fun M2 f2 => hE M2 (fun c j q1 q2 => (f2 c j q2).trans (f1 c j q1)))
/-- barred by the law, in the reference -/
theorem bo_ok {M : gM} {R : Int32 → gM → Prop} {k : Int} (hN : 500 ≤ N) (hK : 500 ≤ K) (hV : Vk r) (hm : Vm r) (hR : Rr M b r) (hF : FL r cs) (hk : bd9 k) (hE : ∀ M1, Fa9 b M M1 → R (iZ (baF cs r k)) M1) : pX9_isBarred N K M b (iZ k) R := by
  unfold pX9_isBarred
  rw [hR 32 (by omega), iZ_n1]
  refine sa_ok hR (fun M1 f1 a1 => ?_)
  refine mt_ok (x := 2) (Or.inr rfl) hN hK (fun i hi => by rw [f1 _ _ (by omega)]; exact hR i hi) hF a1 (env_k hV hm hk) (fun M2 f2 => ?_)
  have kk := hE M2 (fun c j q1 q2 => (f2 c j q2).trans (f1 c j q1))
  have e0 : tlL 2 (eL (-1) (-1) k (r 32) (r 201) (-1) (r 187)) cs 0 = baF cs r k := rfl
  rw [e0]
  rcases baF_b (cs := cs) (r := r) (k := k) with z | z
  · rw [z] at kk ⊢
    exact ⟨fun _ => kk, fun y => absurd y (by decide)⟩
  · rw [z] at kk ⊢
    exact ⟨fun y => absurd rfl y, fun _ => kk⟩
end RK9
