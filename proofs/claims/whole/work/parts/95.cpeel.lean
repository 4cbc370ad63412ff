/-! The order of peeling; the class peels. -/
def nfS (vt : Nat → Nat → Nat) (m V : Nat) (rk : Nat → Int) (S : Nat → Bool) : Option Nat := nfr (fun v => decide (dgS vt m S v = 1)) rk V 0 none
def kyS (vt : Nat → Nat → Nat) (m : Nat) (S : Nat → Bool) (v : Nat) : Nat := smS (pS vt S v) m
def pel (vt : Nat → Nat → Nat) (m V : Nat) (rk : Nat → Int) : Nat → (Nat → Bool) → List (Nat × Nat)
  | 0, _ => []
  | f + 1, S => match nfS vt m V rk S with
    | none => []
    | some v => (kyS vt m S v, v) :: pel vt m V rk f (rmv S (kyS vt m S v))
theorem nfr_R {f : Nat → Bool} {rk : Nat → Int} : ∀ (n u : Nat) (b : Option Nat), (∀ w, b = some w → f w = true ∧ w < u) → (∀ v, nfr f rk n u b = some v → f v = true ∧ v < u + n) ∧ (nfr f rk n u b = none → b = none ∧ ∀ v, u ≤ v → v < u + n → f v = false) := by
  intro n
  induction n with
  | zero =>
    intro u b hb
    exact ⟨fun v hv => ⟨(hb v hv).1, by have := (hb v hv).2; omega⟩, fun h => ⟨h, fun v h1 h2 => by omega⟩⟩
  | succ n ih =>
    intro u b hb
    rw [nfr_s]
    cases c : f u with
    | false =>
      rw [nst_0 c]
      obtain ⟨i1, i2⟩ := ih (u + 1) b (fun w hw => ⟨(hb w hw).1, by have := (hb w hw).2; omega⟩)
      refine ⟨fun v hv => ⟨(i1 v hv).1, by have := (i1 v hv).2; omega⟩, fun h => ⟨(i2 h).1, fun v h1 h2 => ?_⟩⟩
      rcases Nat.lt_or_ge u v with z | z
      · exact (i2 h).2 v (by omega) (by omega)
      · rw [show v = u by omega]; exact c
    | true =>
      have key : ∃ w, nst f rk u b = some w ∧ f w = true ∧ w < u + 1 := by
        cases hb2 : b with
        | none => rw [nst_n c]; exact ⟨u, rfl, c, by omega⟩
        | some w =>
          rw [nst_s c]
          split
          · exact ⟨w, rfl, (hb w hb2).1, by have := (hb w hb2).2; omega⟩
          · exact ⟨u, rfl, c, by omega⟩
      obtain ⟨w, w1, w2, w3⟩ := key
      rw [w1]
      obtain ⟨i1, i2⟩ := ih (u + 1) (some w) (fun w2 hw => by cases hw; exact ⟨by assumption, by omega⟩)
      refine ⟨fun v hv => ⟨(i1 v hv).1, by have := (i1 v hv).2; omega⟩, fun h => ?_⟩
      have := (i2 h).1
      cases this
section PEL
variable {vt : Nat → Nat → Nat} {m V : Nat} {rk : Nat → Int}
theorem nfS_s {S : Nat → Bool} {v : Nat} (h : nfS vt m V rk S = some v) : v < V ∧ dgS vt m S v = 1 ∧ kyS vt m S v < m ∧ S (kyS vt m S v) = true ∧ ic vt (kyS vt m S v) v = true ∧ xrS (pS vt S v) m = iZ ((kyS vt m S v : Nat) : Int) := by
  obtain ⟨i1, _⟩ := nfr_R (f := fun v => decide (dgS vt m S v = 1)) (rk := rk) V 0 none (fun w hw => (by cases hw))
  obtain ⟨a1, a2⟩ := i1 v h
  have d1 := of_decide_eq_true a1
  obtain ⟨k, k1, k2, k3, k4, k5, _⟩ := dg_one d1
  have e : kyS vt m S v = k := k5
  rw [e]
  exact ⟨by omega, d1, k1, k2, k3, k4⟩
theorem nfS_n {S : Nat → Bool} (hV : Vd vt m V) (h : nfS vt m V rk S = none) : Cld vt m S := by
  obtain ⟨_, i2⟩ := nfr_R (f := fun v => decide (dgS vt m S v = 1)) (rk := rk) V 0 none (fun w hw => (by cases hw))
  refine hV.cld (fun v hv z => ?_)
  have := (i2 h).2 v (by omega) (by omega)
  rw [decide_eq_true z] at this
  cases this
theorem pel_end (hV : Vd vt m V) : ∀ (f : Nat) (S : Nat → Bool), Run vt m V S → cnt S m ≤ f → ∃ S2, Run vt m V S2 ∧ Cld vt m S2 ∧ cnt S2 m + (pel vt m V rk f S).length = cnt S m := by
  intro f
  induction f with
  | zero =>
    intro S hS hf
    refine ⟨S, hS, fun v hv => ?_, rfl⟩
    obtain ⟨k, k1, k2, _⟩ := dg_one hv
    have := cnt_pos k1 k2
    omega
  | succ f ih =>
    intro S hS hf
    rw [pel]
    cases h : nfS vt m V rk S with
    | none => exact ⟨S, hS, nfS_n hV h, rfl⟩
    | some v =>
      obtain ⟨a1, a2, a3, a4, a5, _⟩ := nfS_s h
      obtain ⟨U1, U2⟩ := hS.step a2 a1 a3 a4 a5
      obtain ⟨S2, b1, b2, b3⟩ := ih _ U1 (by omega)
      refine ⟨S2, b1, b2, ?_⟩
      dsimp only
      rw [List.length_cons]
      omega
theorem pel_core (hV : Vd vt m V) : (pel vt m V rk m (fun _ => true)).length ≤ m ∧ IsCore vt m V (m - (pel vt m V rk m (fun _ => true)).length) := by
  obtain ⟨S2, b1, b2, b3⟩ := pel_end (rk := rk) hV m (fun _ => true) Run.start (by rw [cnt_all]; omega)
  rw [cnt_all] at b3
  exact ⟨by omega, S2, b1, b2, by omega⟩
end PEL
def Fpe (a : Nat) (M M1 : gM) : Prop := ∀ c j, c ≠ a + 2 → c ≠ a + 3 → c ≠ a + 4 → c ≠ a + 5 → c ≠ a + 7 → (c ≠ a ∨ j ≠ 8) → g_mi M1 c j = g_mi M c j
/-- keys' numbers and free vertices in the class's rows -/
def Lp (M : gM) (a i : Nat) (L : List (Nat × Nat)) : Prop := ∀ (j : Nat) (x : Nat × Nat), L[j]? = some x → g_mi M (a + 2) (i + j) = iZ x.1 ∧ g_mi M (a + 3) (i + j) = iZ x.2
section CPEEL
variable {N K a st : Nat} {vt : Nat → Nat → Nat} {m V : Nat} {rk : Nat → Int} {d : Int}
theorem Fpe.tr {M M1 M2 : gM} (h : Fpe a M M1) (h2 : Fpe a M1 M2) : Fpe a M M2 := fun c j q1 q2 q3 q4 q5 q6 => (h2 c j q1 q2 q3 q4 q5 q6).trans (h c j q1 q2 q3 q4 q5 q6)
theorem cp_loop {M0 : gM} {R : gM → Prop} (hN : 500 ≤ N) (hV : Vd vt m V) (ds : st < a ∨ a + 7 < st) (h3 : g_mi M0 st 3 = iZ m) (h4 : g_mi M0 st 4 = iZ d) (hVd : (V : Int) = 3 * d) (hr : ∀ v, v < V → g_mi M0 (a + 6) v = iZ (rk v) ∧ 0 ≤ rk v ∧ rk v ≤ 99) : ∀ (e i n : Nat) (M : gM) (S : Nat → Bool), i + e = m → e + 1 ≤ n → Fpe a M0 M → Pv M (a + 1) vt m → Pd M a vt m S → Run vt m V S → cnt S m = e → g_mi M a 8 = iZ i → (∀ M1, Fpe a M0 M1 → g_mi M1 a 8 = iZ ((i + (pel vt m V rk e S).length : Nat) : Int) → (∀ j, j < i → g_mi M1 (a + 2) j = g_mi M (a + 2) j ∧ g_mi M1 (a + 3) j = g_mi M (a + 3) j) → Lp M1 a i (pel vt m V rk e S) → R M1) → qX1_peel N K R n 1 M a st 0 0 0 0 (iZ i) := by
  have m30 := hV.1
  have v60 := hV.2.1
  intro e
  induction e with
  | zero =>
    intro i n M S hi hn f hP hD hU hc h8 hE
    obtain ⟨n2, rfl⟩ : ∃ n2, n = n2 + 1 := ⟨n - 1, by omega⟩
    rw [qX1_peel, if_neg (by decide)]
    unfold pX1_peel_64
    have c1 : g_mi M st 3 ≤ iZ (i : Int) := by rw [f st 3 (by omega) (by omega) (by omega) (by omega) (by omega) (by omega), h3, iZ_le (by omega) (by omega) (by omega) (by omega)]; omega
    exact ⟨fun _ => hE M f h8 (fun _ _ => ⟨rfl, rfl⟩) (fun j x hx => (by cases hx)), fun z => absurd c1 z⟩
  | succ e ih =>
    intro i n M S hi hn f hP hD hU hc h8 hE
    obtain ⟨n2, rfl⟩ : ∃ n2, n = n2 + 1 := ⟨n - 1, by omega⟩
    rw [qX1_peel, if_neg (by decide)]
    unfold pX1_peel_64
    have c1 : ¬ g_mi M st 3 ≤ iZ (i : Int) := by rw [f st 3 (by omega) (by omega) (by omega) (by omega) (by omega) (by omega), h3, iZ_le (by omega) (by omega) (by omega) (by omega)]; omega
    refine ⟨fun z => absurd z c1, fun _ => ?_⟩
    rw [f st 4 (by omega) (by omega) (by omega) (by omega) (by omega) (by omega), h4, iZ_l3, iZ_mul, ← hVd]
    unfold pX1_leastFree pX1_leastFree_0
    refine lf_loop (rk := rk) hV hD (fun v hv => by rw [f _ _ (by omega) (by omega) (by omega) (by omega) (by omega) (by omega)]; exact hr v hv) V 0 N none (by omega) (by omega) (fun w hw => (by cases hw)) ?_
    rw [pel] at hE
    have e0 : nfr (fun v => decide (dgS vt m S v = 1)) rk V 0 none = nfS vt m V rk S := rfl
    rw [e0]
    cases h : nfS vt m V rk S with
    | none =>
      rw [h] at hE
      exact ⟨fun z => absurd rfl z, fun _ => hE M f h8 (fun _ _ => ⟨rfl, rfl⟩) (fun j x hx => (by cases hx))⟩
    | some v =>
      rw [h] at hE
      dsimp only at hE
      obtain ⟨a1, a2, a3, a4, a5, a6⟩ := nfS_s h
      obtain ⟨U1, U2⟩ := hU.step a2 a1 a3 a4 a5
      generalize hk : kyS vt m S v = k at *
      unfold oI
      dsimp only
      have nv : ¬ iZ (v : Int) = -1 := by rw [iZ_n1, iZ_eq (by omega) (by omega) (by omega) (by omega)]; omega
      have vv : vp_in (iZ (v : Int)) 60 := iZ_in (by omega) (by omega) (by omega)
      have vi : vp_in (iZ (i : Int)) 30 := iZ_in (by omega) (by omega) (by omega)
      refine ⟨fun _ => ?_, fun z => absurd z nv⟩
      rw [iZ_cl (show v < 2147483648 by omega), h8, iZ_cl (show i < 2147483648 by omega), (hD v (by omega)).2, a6]
      refine ⟨vv, vi, fun M1 h1 => ?_⟩
      have e1 : g_mi M1 a 8 = iZ i := by rw [h1, mi_wi, if_neg (by omega)]; exact h8
      rw [e1, iZ_cl (show i < 2147483648 by omega)]
      refine ⟨vi, fun M2 h2 M3 hM3 => ?_⟩
      have e2 : g_mi M2 a 8 = iZ i := by rw [h2, mi_wi, if_neg (by omega)]; exact e1
      rw [e2, iZ_s1] at hM3
      have g : ∀ c j, g_mi M3 c j = if c = a ∧ j = 8 then iZ ((i + 1 : Nat) : Int) else if c = a + 3 ∧ j = i then iZ v else if c = a + 2 ∧ j = i then iZ k else g_mi M c j := fun c j => by rw [hM3, mi_wi, h2, mi_wi, h1, mi_wi]
      have D3 : Pd M3 a vt m S := fun u hu => by
        have e4 : g_mi M3 (a + 4) u = g_mi M (a + 4) u := by rw [g, if_neg (by omega), if_neg (by omega), if_neg (by omega)]
        have e5 : g_mi M3 (a + 5) u = g_mi M (a + 5) u := by rw [g, if_neg (by omega), if_neg (by omega), if_neg (by omega)]
        rw [e4, e5]; exact hD u hu
      have P3 : Pv M3 (a + 1) vt m := fun k2 i2 q1 q2 => by rw [g, if_neg (by omega), if_neg (by omega), if_neg (by omega)]; exact hP k2 i2 q1 q2
      rw [(D3 v (by omega)).2, a6]
      refine ⟨vv, lg_ok (ql := 0) hN hV a3 a4 (by omega) P3 D3 (fun M4 f4 D4 _ => ?_)⟩
      rw [iZ_s1]
      have f04 : Fpe a M0 M4 := fun c j q1 q2 q3 q4 q5 q6 => by
        rw [f4 c q3 q4 q5, g, if_neg (by omega), if_neg (by omega), if_neg (by omega)]
        exact f c j q1 q2 q3 q4 q5 q6
      have g4 : ∀ c j, c ≠ a + 4 → c ≠ a + 5 → c ≠ a + 7 → g_mi M4 c j = g_mi M3 c j := fun c j q1 q2 q3 => by rw [f4 c q1 q2 q3]
      refine ih (i + 1) n2 M4 (rmv S k) (by omega) (by omega) f04 (fun k2 i2 q1 q2 => by rw [g4 _ _ (by omega) (by omega) (by omega)]; exact P3 k2 i2 q1 q2) D4 U1 (by omega) (by rw [g4 _ _ (by omega) (by omega) (by omega), g, if_pos ⟨rfl, rfl⟩]) (fun M5 f5 e5 s5 l5 => ?_)
      have row : ∀ j, j < i + 1 → g_mi M5 (a + 2) j = g_mi M3 (a + 2) j ∧ g_mi M5 (a + 3) j = g_mi M3 (a + 3) j := fun j hj => by
        have := s5 j hj
        rw [this.1, this.2, g4 _ _ (by omega) (by omega) (by omega), g4 _ _ (by omega) (by omega) (by omega)]
        exact ⟨rfl, rfl⟩
      refine hE M5 f5 (by rw [e5, List.length_cons]; congr 2; omega) (fun j hj => ?_) (fun j x hx => ?_)
      · rw [(row j (by omega)).1, (row j (by omega)).2, g, if_neg (by omega), if_neg (by omega), if_neg (by omega), g, if_neg (by omega), if_neg (by omega), if_neg (by omega)]
        exact ⟨rfl, rfl⟩
      · cases j with
        | zero =>
          cases hx
          show g_mi M5 (a + 2) i = iZ k ∧ g_mi M5 (a + 3) i = iZ v
          rw [(row i (by omega)).1, (row i (by omega)).2, g, if_neg (by omega), if_neg (by omega), if_pos ⟨rfl, rfl⟩, g, if_neg (by omega), if_pos ⟨rfl, rfl⟩]
          exact ⟨rfl, rfl⟩
        | succ j =>
          rw [List.getElem?_cons_succ] at hx
          have := l5 j x hx
          rw [show i + (j + 1) = i + 1 + j by omega]
          exact this
end CPEEL
