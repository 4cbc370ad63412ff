/-! The reference peels. -/
def Pgm (M : gM) (b : Nat) (vt : Nat → Nat → Nat) (m : Nat) (S : Nat → Bool) (k i : Nat) : Prop := ∀ v, v < 60 → g_mi M (b + 17) v = iZ ((dgS vt m S v : Int) - (if pii vt k i v = true then 1 else 0)) ∧ g_mi M (b + 18) v = iZ ((smS (pS vt S v) m : Int) - (if pii vt k i v = true then (k : Int) else 0))
def Fn (b : Nat) (M M1 : gM) : Prop := ∀ c, c ≠ b + 17 → c ≠ b + 18 → g_mi M1 c = g_mi M c
def pkF (N K : Nat) (kp : Nat → gM → Nat → Int32 → Int32 → Int32 → Int32 → Prop) (M : gM) (b : Nat) (x2 x3 x4 : Int32) : Prop := (EX9_keyAt M b x4) ∧ ∀ v1 : Int32, v1 = (fX9_keyAt M b x4) → (vp_in (x2) 30) ∧ ∀ M1 : gM, M1 = (g_wi M (b + 13) (x2).toNatClampNeg v1) → (vp_in (x2) 30) ∧ ∀ M2 : gM, M2 = (g_wi M1 (b + 14) (x2).toNatClampNeg x3) → ∀ M3 : gM, M3 = (g_wi M2 b 35 ((g_mi M2 b 35) - 1)) → pX9_nextFree N K M3 b (fun v2 => kp 0 M3 b (x2 + 1) v2 0 0)
section MPEEL
variable {N K b : Nat} {vt : Nat → Nat → Nat} {m V : Nat} {S : Nat → Bool} {k : Nat}
theorem Fn.tr {M M1 M2 : gM} (h : Fn b M M1) (h2 : Fn b M1 M2) : Fn b M M2 := fun c q1 q2 => (h2 c q1 q2).trans (h c q1 q2)
theorem Pgm.st {M : gM} (h : Pdm M b vt m S) : Pgm M b vt m S k 0 := fun v hv => by
  have := h v hv
  rw [pii_0, if_neg (by decide), if_neg (by decide), Int.sub_zero, Int.sub_zero]
  exact this
theorem Pgm.en {M : gM} (hk : k < m) (hS : S k = true) (h : Pgm M b vt m S k 3) : Pdm M b vt m (rmv S k) := fun v hv => by
  have := h v hv
  rw [pii_3] at this
  rw [this.1, this.2]
  cases c : ic vt k v with
  | true =>
    have x := dg_rm (v := v) hk hS c
    rw [if_pos rfl, if_pos rfl]
    refine ⟨?_, ?_⟩
    · congr 1; omega
    · congr 1; omega
  | false =>
    have x := dg_rn (m := m) (S := S) c
    rw [if_neg (by decide), if_neg (by decide), x.2.2, x.1, Int.sub_zero, Int.sub_zero]
    exact ⟨rfl, rfl⟩
theorem mg_loop {M0 : gM} {R : gM → Prop} {x2 x3 : Int32} (hV : Vd vt m V) (hk : k < m) (hS : S k = true) : ∀ (e i n : Nat) (M : gM), i + e = 3 → e + 1 ≤ n → Fn b M0 M → Pv M (b + 16) vt m → Pgm M b vt m S k i → (∀ M1 n1, Fn b M0 M1 → Pdm M1 b vt m (rmv S k) → n ≤ n1 + e + 1 → pkF N K (qX9_peels N K R n1) M1 b x2 x3 (iZ k)) → qX9_peels N K R n 1 M b x2 x3 (iZ k) (iZ i) := by
  intro e
  induction e with
  | zero =>
    intro i n M hi hn f hP hG hE
    obtain ⟨n2, rfl⟩ : ∃ n2, n = n2 + 1 := ⟨n - 1, by omega⟩
    have e3 : i = 3 := by omega
    subst e3
    rw [qX9_peels, if_neg (by decide)]
    unfold pX9_peels_38
    exact ⟨fun _ => hE M n2 f (hG.en hk hS) (by omega), fun z => absurd (by decide) z⟩
  | succ e ih =>
    intro i n M hi hn f hP hG hE
    obtain ⟨n2, rfl⟩ : ∃ n2, n = n2 + 1 := ⟨n - 1, by omega⟩
    have hi3 : i < 3 := by omega
    obtain ⟨pw, wV⟩ := pii_w hV hk hi3
    have w60 := hV.2.1
    have m30 := hV.1
    rw [qX9_peels, if_neg (by decide)]
    unfold pX9_peels_38
    have c3 : ¬ (3 : Int32) ≤ iZ (i : Int) := by rw [iZ_l3, iZ_le (by omega) (by omega) (by omega) (by omega)]; omega
    have q := hG (vt k i) (by omega)
    rw [pw, if_neg (by decide), if_neg (by decide), Int.sub_zero, Int.sub_zero] at q
    rw [show (3 : Int32) * iZ (k : Int) + iZ (i : Int) = iZ ((3 * k + i : Nat) : Int) by rw [iZ_l3, iZ_mul, iZ_add]; congr 1, iZ_cl (show 3 * k + i < 2147483648 by omega), hP k i hk hi3, iZ_cl (show vt k i < 2147483648 by omega), iZ_s1]
    have v9 : vp_in (iZ ((3 * k + i : Nat) : Int)) 90 := iZ_in (by omega) (by omega) (by omega)
    have vw : vp_in (iZ ((vt k i : Nat) : Int)) 60 := iZ_in (by omega) (by omega) (by omega)
    refine ⟨fun z => absurd z c3, fun _ => ⟨v9, vw, fun M1 h1 => ?_⟩⟩
    have P1 : g_mi M1 (b + 16) (3 * k + i) = iZ (vt k i) := by rw [h1, mi_wi, if_neg (by omega)]; exact hP k i hk hi3
    rw [P1, iZ_cl (show vt k i < 2147483648 by omega)]
    refine ⟨v9, vw, fun M2 h2 => ?_⟩
    have g1 : g_mi M1 (b + 18) (vt k i) = g_mi M (b + 18) (vt k i) := by rw [h1, mi_wi, if_neg (by omega)]
    rw [q.1, iZ_l1, iZ_sub] at h1
    rw [g1, q.2, iZ_sub] at h2
    have g : ∀ c j, g_mi M2 c j = if c = b + 18 ∧ j = vt k i then iZ ((smS (pS vt S (vt k i)) m : Int) - k) else if c = b + 17 ∧ j = vt k i then iZ ((dgS vt m S (vt k i) : Int) - 1) else g_mi M c j := fun c j => by rw [h2, mi_wi, h1, mi_wi]
    have f2 : Fn b M0 M2 := f.tr (fun c q1 q2 => by funext j; rw [g, if_neg (by omega), if_neg (by omega)])
    refine ih (i + 1) n2 M2 (by omega) (by omega) f2 (fun k2 i2 q1 q2 => by rw [g, if_neg (by omega), if_neg (by omega)]; exact hP k2 i2 q1 q2) (fun v hv => ?_) (fun M3 n1 f3 d3 hn3 => hE M3 n1 f3 d3 (by omega))
    rw [pii_s hi3]
    by_cases c : vt k i = v
    · subst c
      rw [pw, show (false || decide (vt k i = vt k i)) = true by simp, if_pos rfl, if_pos rfl, g, if_neg (by omega), if_pos ⟨rfl, rfl⟩, g, if_pos ⟨rfl, rfl⟩]
      exact ⟨rfl, rfl⟩
    · have e4 : g_mi M2 (b + 17) v = g_mi M (b + 17) v := by rw [g, if_neg (by omega), if_neg (by omega)]
      have e5 : g_mi M2 (b + 18) v = g_mi M (b + 18) v := by rw [g, if_neg (by omega), if_neg (by omega)]
      rw [show (pii vt k i v || decide (vt k i = v)) = pii vt k i v by simp [c], e4, e5]
      exact hG v hv
end MPEEL
def Fq (b : Nat) (M M1 : gM) : Prop := ∀ c j, c ≠ b + 13 → c ≠ b + 14 → c ≠ b + 16 → c ≠ b + 17 → c ≠ b + 18 → (c ≠ b ∨ j ≠ 35) → g_mi M1 c j = g_mi M c j
/-- keys and free vertices in the reference's rows -/
def Lm (M : gM) (b i : Nat) (r : Nat → Int) (L : List (Nat × Nat)) : Prop := ∀ (j : Nat) (x : Nat × Nat), L[j]? = some x → g_mi M (b + 13) (i + j) = iZ (r (1 + x.1)) ∧ g_mi M (b + 14) (i + j) = iZ x.2
section MPEEL2
variable {N K b : Nat} {r : Nat → Int} {vt : Nat → Nat → Nat} {m V : Nat} {rk : Nat → Int} {d : Int}
theorem Fq.tr {M M1 M2 : gM} (h : Fq b M M1) (h2 : Fq b M1 M2) : Fq b M M2 := fun c j q1 q2 q3 q4 q5 q6 => (h2 c j q1 q2 q3 q4 q5 q6).trans (h c j q1 q2 q3 q4 q5 q6)
theorem mp_loop {M0 : gM} {R : gM → Prop} (hN : 500 ≤ N) (hV : Vd vt m V) (hR : Rr M0 b r) (hVd : (V : Int) = 3 * r 31) (hr : ∀ v, v < V → g_mi M0 (b + 15) v = iZ (rk v) ∧ 0 ≤ rk v ∧ rk v ≤ 99) : ∀ (e i n : Nat) (M : gM) (S : Nat → Bool), i + e = m → 5 * e + 1 ≤ n → Fq b M0 M → Pv M (b + 16) vt m → Pdm M b vt m S → Run vt m V S → cnt S m = e → g_mi M b 35 = iZ ((e : Nat) : Int) → (∀ M1, Fq b M0 M1 → g_mi M1 b 35 = iZ ((e : Int) - (pel vt m V rk e S).length) → (∀ j, j < i → g_mi M1 (b + 13) j = g_mi M (b + 13) j ∧ g_mi M1 (b + 14) j = g_mi M (b + 14) j) → Lm M1 b i r (pel vt m V rk e S) → R M1) → qX9_peels N K R n 0 M b (iZ i) (iZ (oI (nfS vt m V rk S))) 0 0 := by
  have m30 := hV.1
  have v60 := hV.2.1
  intro e
  induction e with
  | zero =>
    intro i n M S hi hn f hP hD hU hc h35 hE
    obtain ⟨n2, rfl⟩ : ∃ n2, n = n2 + 1 := ⟨n - 1, by omega⟩
    rw [qX9_peels, if_pos rfl]
    unfold pX9_peels_22
    have hno : nfS vt m V rk S = none := by
      cases h : nfS vt m V rk S with
      | none => rfl
      | some v =>
        obtain ⟨a1, a2, a3, a4, a5, a6⟩ := nfS_s h
        have := cnt_pos a3 a4
        omega
    rw [hno]
    exact ⟨fun _ => hE M f (by rw [h35]; rfl) (fun _ _ => ⟨rfl, rfl⟩) (fun j x hx => (by cases hx)), fun z => absurd rfl z⟩
  | succ e ih =>
    intro i n M S hi hn f hP hD hU hc h35 hE
    obtain ⟨n2, rfl⟩ : ∃ n2, n = n2 + 1 := ⟨n - 1, by omega⟩
    rw [qX9_peels, if_pos rfl]
    unfold pX9_peels_22
    rw [pel] at hE
    cases h : nfS vt m V rk S with
    | none =>
      rw [h] at hE
      exact ⟨fun _ => hE M f (by rw [h35]; congr 1) (fun _ _ => ⟨rfl, rfl⟩) (fun j x hx => (by cases hx)), fun z => absurd rfl z⟩
    | some v =>
      rw [h] at hE
      dsimp only at hE
      obtain ⟨a1, a2, a3, a4, a5, a6⟩ := nfS_s h
      obtain ⟨U1, U2⟩ := hU.step a2 a1 a3 a4 a5
      have D2 := (hD v (by omega)).2
      have kk3 : smS (pS vt S v) m = kyS vt m S v := rfl
      rw [kk3] at D2
      generalize hk : kyS vt m S v = k at *
      unfold oI
      dsimp only
      have nv : ¬ iZ (v : Int) = -1 := by rw [iZ_n1, iZ_eq (by omega) (by omega) (by omega) (by omega)]; omega
      refine ⟨fun z => absurd z nv, fun _ => ⟨iZ_in (by omega) (by omega) (by omega), ?_⟩⟩
      rw [iZ_cl (show v < 2147483648 by omega), D2]
      refine mg_loop (M0 := M) hV a3 a4 3 0 n2 M (by omega) (by omega) (fun _ _ _ => rfl) hP (Pgm.st hD) (fun M1 n1 f1 D1 hn1 => ?_)
      have vi : vp_in (iZ (i : Int)) 30 := iZ_in (by omega) (by omega) (by omega)
      have f01 : Fq b M0 M1 := fun c j q1 q2 q3 q4 q5 q6 => by rw [f1 c q4 q5]; exact f c j q1 q2 q3 q4 q5 q6
      have R1 : Rr M1 b r := fun j hj => by rw [f01 _ _ (by omega) (by omega) (by omega) (by omega) (by omega) (by omega)]; exact hR j hj
      obtain ⟨ke, kf⟩ := ka_9 (i := k) R1 (by omega)
      unfold pkF
      refine ⟨ke, fun v1 hv1 => ⟨vi, fun M2 h2 => ⟨vi, fun M3 h3 M4 h4 => ?_⟩⟩⟩
      rw [kf] at hv1
      subst hv1
      rw [iZ_cl (show i < 2147483648 by omega)] at h2 h3
      have e35 : g_mi M3 b 35 = iZ ((e + 1 : Nat) : Int) := by rw [h3, mi_wi, if_neg (by omega), h2, mi_wi, if_neg (by omega), f1 b (by omega) (by omega)]; exact h35
      rw [e35, iZ_l1, iZ_sub] at h4
      have g : ∀ c j, g_mi M4 c j = if c = b ∧ j = 35 then iZ (((e + 1 : Nat) : Int) - 1) else if c = b + 14 ∧ j = i then iZ v else if c = b + 13 ∧ j = i then iZ (r (1 + k)) else g_mi M1 c j := fun c j => by rw [h4, mi_wi, h3, mi_wi, h2, mi_wi]
      have f04 : Fq b M0 M4 := fun c j q1 q2 q3 q4 q5 q6 => by
        rw [g, if_neg (by omega), if_neg (by omega), if_neg (by omega)]; exact f01 c j q1 q2 q3 q4 q5 q6
      have D4 : Pdm M4 b vt m (rmv S k) := fun u hu => by
        have e4 : g_mi M4 (b + 17) u = g_mi M1 (b + 17) u := by rw [g, if_neg (by omega), if_neg (by omega), if_neg (by omega)]
        have e5 : g_mi M4 (b + 18) u = g_mi M1 (b + 18) u := by rw [g, if_neg (by omega), if_neg (by omega), if_neg (by omega)]
        rw [e4, e5]; exact D1 u hu
      have P4 : Pv M4 (b + 16) vt m := fun k2 i2 q1 q2 => by rw [g, if_neg (by omega), if_neg (by omega), if_neg (by omega), f1 _ (by omega) (by omega)]; exact hP k2 i2 q1 q2
      unfold pX9_nextFree pX9_nextFree_0
      refine mf_loop (rk := rk) (d := r 31) hV (by rw [f04 _ _ (by omega) (by omega) (by omega) (by omega) (by omega) (by omega)]; exact hR 31 (by omega)) hVd D4 (fun u hu => by rw [f04 _ _ (by omega) (by omega) (by omega) (by omega) (by omega) (by omega)]; exact hr u hu) V 0 N none (by omega) (by omega) (fun w hw => (by cases hw)) ?_
      rw [iZ_s1]
      refine ih (i + 1) n1 M4 (rmv S k) (by omega) (by omega) f04 P4 D4 U1 (by omega) (by rw [g, if_pos ⟨rfl, rfl⟩]; congr 1; omega) (fun M5 f5 e5 s5 l5 => ?_)
      refine hE M5 f5 (by rw [e5, List.length_cons]; congr 1; omega) (fun j hj => ?_) (fun j x hx => ?_)
      · have := s5 j (by omega)
        rw [this.1, this.2, g, if_neg (by omega), if_neg (by omega), if_neg (by omega), g, if_neg (by omega), if_neg (by omega), if_neg (by omega), f1 _ (by omega) (by omega), f1 _ (by omega) (by omega)]
        exact ⟨rfl, rfl⟩
      · cases j with
        | zero =>
          cases hx
          show g_mi M5 (b + 13) i = iZ (r (1 + k)) ∧ g_mi M5 (b + 14) i = iZ v
          rw [(s5 i (by omega)).1, (s5 i (by omega)).2, g, if_neg (by omega), if_neg (by omega), if_pos ⟨rfl, rfl⟩, g, if_neg (by omega), if_pos ⟨rfl, rfl⟩]
          exact ⟨rfl, rfl⟩
        | succ j =>
          rw [List.getElem?_cons_succ] at hx
          have := l5 j x hx
          rw [show i + (j + 1) = i + 1 + j by omega]
          exact this
/-- the reference has peeled -/
theorem mp_ok {s : Int} {M : gM} {R : gM → Prop} (hN : 500 ≤ N) (hV : Vk r) (s0 : 0 ≤ s) (s1 : s ≤ 255) (hR : Rr M b r) (hr : ∀ v : Nat, (v : Int) < 3 * r 31 → g_mi M (b + 15) v = iZ (rk v) ∧ 0 ≤ rk v ∧ rk v ≤ 99) (hE : ∀ M1, Fq b M M1 → g_mi M1 b 35 = iZ (r 0 - (pel (vtR r s (r 31)) (r 0).toNat (3 * r 31).toNat rk (r 0).toNat (fun _ => true)).length) → Lm M1 b 0 r (pel (vtR r s (r 31)) (r 0).toNat (3 * r 31).toNat rk (r 0).toNat (fun _ => true)) → R M1) : pX9_peels N K M b (iZ s) R := by
  have m1 := hV.1
  have m2 := hV.2.1
  have d0 := hV.2.2.2.2.1
  have d1 := hV.2.2.2.2.2.1
  have hVd := vtR_V (s := s) hV d0 d1
  unfold pX9_peels pX9_peels_0
  refine ml_ok hN hV s0 s1 hR (fun M1 f1 P1 D1 M2 h2 => ?_)
  have k2 : ∀ c j, (c ≠ b ∨ j ≠ 35) → g_mi M2 c j = g_mi M1 c j := fun c j q => by rw [h2, mi_wi, if_neg (by omega)]
  have f02 : Fq b M M2 := fun c j q1 q2 q3 q4 q5 q6 => by rw [k2 c j q6, f1 c q3 q4 q5]
  have R2 : Rr M2 b r := fun j hj => by rw [f02 _ _ (by omega) (by omega) (by omega) (by omega) (by omega) (by omega)]; exact hR j hj
  have D2 : Pdm M2 b (vtR r s (r 31)) (r 0).toNat (fun _ => true) := fun u hu => by rw [k2 _ _ (by omega), k2 _ _ (by omega)]; exact D1 u hu
  have P2 : Pv M2 (b + 16) (vtR r s (r 31)) (r 0).toNat := fun k i q1 q2 => by rw [k2 _ _ (by omega)]; exact P1 k i q1 q2
  have r2 : ∀ v, v < (3 * r 31).toNat → g_mi M2 (b + 15) v = iZ (rk v) ∧ 0 ≤ rk v ∧ rk v ≤ 99 := fun v hv => by rw [f02 _ _ (by omega) (by omega) (by omega) (by omega) (by omega) (by omega)]; exact hr v (by omega)
  have e35 : g_mi M2 b 35 = iZ (((r 0).toNat : Nat) : Int) := by
    rw [h2, mi_wi, if_pos ⟨rfl, rfl⟩, f1 _ (by omega) (by omega) (by omega), hR 0 (by omega)]
    congr 1; omega
  unfold pX9_nextFree pX9_nextFree_0
  refine mf_loop (rk := rk) (d := r 31) hVd (R2 31 (by omega)) (by omega) D2 r2 (3 * r 31).toNat 0 N none (by omega) (by omega) (fun w hw => (by cases hw)) ?_
  refine mp_loop (M0 := M2) hN hVd R2 (by omega) r2 (r 0).toNat 0 N M2 (fun _ => true) (by omega) (by omega) (fun _ _ _ _ _ _ _ _ => rfl) P2 D2 Run.start cnt_all e35 (fun M3 f3 e3 _ l3 => hE M3 (f02.tr f3) ?_ l3)
  rw [e3]
  congr 1
  omega
end MPEEL2
