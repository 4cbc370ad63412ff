/-! Peeling: the reference lays vertices, finds a free one. -/
def Pdm (M : gM) (b : Nat) (vt : Nat → Nat → Nat) (m : Nat) (S : Nat → Bool) : Prop := ∀ v, v < 60 → g_mi M (b + 17) v = iZ ((dgS vt m S v : Nat) : Int) ∧ g_mi M (b + 18) v = iZ ((smS (pS vt S v) m : Nat) : Int)
def Ppm (M : gM) (b : Nat) (vt : Nat → Nat → Nat) (k i : Nat) : Prop := ∀ v, v < 60 → g_mi M (b + 17) v = iZ ((dgS vt k (fun _ => true) v + (if pii vt k i v = true then 1 else 0) : Nat) : Int) ∧ g_mi M (b + 18) v = iZ ((smS (pS vt (fun _ => true) v) k + (if pii vt k i v = true then k else 0) : Nat) : Int)
def Fm (b : Nat) (M M1 : gM) : Prop := ∀ c, c ≠ b + 16 → c ≠ b + 17 → c ≠ b + 18 → g_mi M1 c = g_mi M c
theorem Ppm.nx {M : gM} {b : Nat} {vt : Nat → Nat → Nat} {k : Nat} (h : Ppm M b vt k 3) : Ppm M b vt (k + 1) 0 := by
  intro v hv
  have := h v hv
  rw [pii_3] at this
  rw [pii_0, if_neg (by decide), if_neg (by decide), this.1, this.2]
  unfold dgS
  rw [smS, cnt]
  have e : pS vt (fun _ => true) v k = ic vt k v := by unfold pS; rfl
  rw [e]
  exact ⟨rfl, rfl⟩
section MLAY
variable {N K b : Nat} {r : Nat → Int} {s : Int}
theorem Fm.tr {M M1 M2 : gM} (h : Fm b M M1) (h2 : Fm b M1 M2) : Fm b M M2 := fun c q1 q2 q3 => (h2 c q1 q2 q3).trans (h c q1 q2 q3)
theorem Rr.fm {M M1 : gM} (h : Rr M b r) (f : Fm b M M1) : Rr M1 b r := fun i hi => by rw [f _ (by omega) (by omega) (by omega)]; exact h i hi
theorem ml_key {R : gM → Prop} {k : Nat} (hV : Vk r) (s0 : 0 ≤ s) (s1 : s ≤ 255) (hk : k < (r 0).toNat) : ∀ (e i n : Nat) (M : gM), i + e = 3 → e + 1 ≤ n → Rr M b r → Pv M (b + 16) (vtR r s (r 31)) k → (∀ j, j < i → g_mi M (b + 16) (3 * k + j) = iZ (vtR r s (r 31) k j)) → Ppm M b (vtR r s (r 31)) k i → (∀ M1 n1, Fm b M M1 → Pv M1 (b + 16) (vtR r s (r 31)) (k + 1) → Ppm M1 b (vtR r s (r 31)) (k + 1) 0 → n ≤ n1 + e + 1 → qX9_laysVertices N K R n1 1 M1 b (iZ s) (iZ ((k + 1 : Nat) : Int)) 0) → qX9_laysVertices N K R n 2 M b (iZ s) (iZ k) (iZ i) := by
  have m1 := hV.1
  have m2 := hV.2.1
  have d0 := hV.2.2.2.2.1
  have d1 := hV.2.2.2.2.2.1
  have hVd := vtR_V (s := s) hV d0 d1
  intro e
  induction e with
  | zero =>
    intro i n M hi hn hR hP hPi hQ hE
    obtain ⟨n2, rfl⟩ : ∃ n2, n = n2 + 1 := ⟨n - 1, by omega⟩
    have e3 : i = 3 := by omega
    subst e3
    rw [qX9_laysVertices, if_neg (by decide), if_neg (by decide)]
    unfold pX9_laysVertices_42
    rw [iZ_s1]
    refine ⟨fun _ => hE M n2 (fun _ _ _ _ => rfl) (fun k2 i2 h1 h2 => ?_) hQ.nx (by omega), fun z => absurd (by decide) z⟩
    rcases Nat.lt_or_ge k2 k with z | z
    · exact hP k2 i2 z h2
    · rw [show k2 = k by omega]; exact hPi i2 h2
  | succ e ih =>
    intro i n M hi hn hR hP hPi hQ hE
    obtain ⟨n2, rfl⟩ : ∃ n2, n = n2 + 1 := ⟨n - 1, by omega⟩
    have hi3 : i < 3 := by omega
    obtain ⟨pw, wV⟩ := pii_w hVd hk hi3
    have wV60 := hVd.2.1
    obtain ⟨ke, kf⟩ := ka_9 (i := k) hR (by omega)
    have kb := hV.2.2.1 k (by omega)
    have vi := vtR_i (s := s) (k := k) hV d0 d1 hi3
    rw [qX9_laysVertices, if_neg (by decide), if_neg (by decide)]
    unfold pX9_laysVertices_42
    have c3 : ¬ (3 : Int32) ≤ iZ (i : Int) := by rw [iZ_l3, iZ_le (by omega) (by omega) (by omega) (by omega)]; omega
    refine ⟨fun z => absurd z c3, fun _ => ⟨ke, fun v1 hv1 => ?_⟩⟩
    rw [kf] at hv1
    subst hv1
    rw [hR 31 (by omega), vx_9 kb.1 (by omega) (show (0 : Int) ≤ (i : Int) by omega) (by omega) s0 s1 d0 d1, ← vi]
    refine ⟨vx_E9 d0 d1, fun v2 hv2 => ?_⟩
    subst hv2
    rw [show (3 : Int32) * iZ (k : Int) + iZ (i : Int) = iZ ((3 * k + i : Nat) : Int) by rw [iZ_l3, iZ_mul, iZ_add]; congr 1, iZ_cl (show 3 * k + i < 2147483648 by omega), iZ_cl (show vtR r s (r 31) k i < 2147483648 by omega), iZ_s1 i]
    have vw : vp_in (iZ ((vtR r s (r 31) k i : Nat) : Int)) 60 := iZ_in (by omega) (by omega) (by omega)
    refine ⟨iZ_in (by omega) (by omega) (by omega), fun M1 h1 => ⟨vw, fun M2 h2 => ⟨vw, fun M3 h3 => ?_⟩⟩⟩
    have q := hQ (vtR r s (r 31) k i) (by omega)
    rw [pw, if_neg (by decide), if_neg (by decide)] at q
    have q1 : g_mi M (b + 17) (vtR r s (r 31) k i) = iZ ((dgS (vtR r s (r 31)) k (fun _ => true) (vtR r s (r 31) k i) : Nat) : Int) := q.1
    have q2 : g_mi M (b + 18) (vtR r s (r 31) k i) = iZ ((smS (pS (vtR r s (r 31)) (fun _ => true) (vtR r s (r 31) k i)) k : Nat) : Int) := q.2
    have g1 : g_mi M1 (b + 17) (vtR r s (r 31) k i) = g_mi M (b + 17) (vtR r s (r 31) k i) := by rw [h1, mi_wi, if_neg (by omega)]
    have g2 : g_mi M2 (b + 18) (vtR r s (r 31) k i) = g_mi M (b + 18) (vtR r s (r 31) k i) := by rw [h2, mi_wi, if_neg (by omega), h1, mi_wi, if_neg (by omega)]
    rw [g1, q1, iZ_s1] at h2
    rw [g2, q2, iZ_add, ← Int.natCast_add] at h3
    have g : ∀ c j, g_mi M3 c j = if c = b + 18 ∧ j = vtR r s (r 31) k i then iZ ((smS (pS (vtR r s (r 31)) (fun _ => true) (vtR r s (r 31) k i)) k + k : Nat) : Int) else if c = b + 17 ∧ j = vtR r s (r 31) k i then iZ ((dgS (vtR r s (r 31)) k (fun _ => true) (vtR r s (r 31) k i) + 1 : Nat) : Int) else if c = b + 16 ∧ j = 3 * k + i then iZ ((vtR r s (r 31) k i : Nat) : Int) else g_mi M c j := fun c j => by rw [h3, mi_wi, h2, mi_wi, h1, mi_wi]
    have f3 : Fm b M M3 := fun c q1 q2 q3 => by funext j; rw [g, if_neg (by omega), if_neg (by omega), if_neg (by omega)]
    refine ih (i + 1) n2 M3 (by omega) (by omega) (hR.fm f3) (fun k2 i2 q1 q2 => ?_) (fun j hj => ?_) (fun v hv => ?_) (fun M4 n1 f4 p4 q4 hn4 => hE M4 n1 (f3.tr f4) p4 q4 (by omega))
    · rw [g, if_neg (by omega), if_neg (by omega), if_neg (by omega)]; exact hP k2 i2 q1 q2
    · rcases Nat.lt_or_ge j i with z | z
      · rw [g, if_neg (by omega), if_neg (by omega), if_neg (by omega)]; exact hPi j z
      · have ej : j = i := by omega
        rw [ej, g, if_neg (by omega), if_neg (by omega), if_pos ⟨rfl, rfl⟩]
    · rw [pii_s hi3]
      by_cases c : vtR r s (r 31) k i = v
      · subst c
        rw [pw, show (false || decide (vtR r s (r 31) k i = vtR r s (r 31) k i)) = true by simp, if_pos rfl, if_pos rfl, g, if_neg (by omega), if_pos ⟨rfl, rfl⟩, g, if_pos ⟨rfl, rfl⟩]
        exact ⟨rfl, rfl⟩
      · have e4 : g_mi M3 (b + 17) v = g_mi M (b + 17) v := by rw [g, if_neg (by omega), if_neg (by omega), if_neg (by omega)]
        have e5 : g_mi M3 (b + 18) v = g_mi M (b + 18) v := by rw [g, if_neg (by omega), if_neg (by omega), if_neg (by omega)]
        rw [show (pii (vtR r s (r 31)) k i v || decide (vtR r s (r 31) k i = v)) = pii (vtR r s (r 31)) k i v by simp [c], e4, e5]
        exact hQ v hv
theorem ml_all {R : gM → Prop} (hV : Vk r) (s0 : 0 ≤ s) (s1 : s ≤ 255) : ∀ (e k n : Nat) (M : gM), k + e = (r 0).toNat → 5 * e + 1 ≤ n → Rr M b r → Pv M (b + 16) (vtR r s (r 31)) k → Ppm M b (vtR r s (r 31)) k 0 → (∀ M1, Fm b M M1 → Pv M1 (b + 16) (vtR r s (r 31)) (r 0).toNat → Pdm M1 b (vtR r s (r 31)) (r 0).toNat (fun _ => true) → R M1) → qX9_laysVertices N K R n 1 M b (iZ s) (iZ k) 0 := by
  have m1 := hV.1
  have m2 := hV.2.1
  intro e
  induction e with
  | zero =>
    intro k n M hk hn hR hP hQ hE
    obtain ⟨n2, rfl⟩ : ∃ n2, n = n2 + 1 := ⟨n - 1, by omega⟩
    rw [qX9_laysVertices, if_neg (by decide), if_pos rfl]
    unfold pX9_laysVertices_30
    have cm : g_mi M (b + 2) 0 ≤ iZ (k : Int) := by rw [hR 0 (by omega), iZ_le (by omega) (by omega) (by omega) (by omega)]; omega
    refine ⟨fun _ => ?_, fun z => absurd cm z⟩
    have ek : k = (r 0).toNat := by omega
    refine hE M (fun _ _ _ _ => rfl) (by rw [← ek]; exact hP) (fun v hv => ?_)
    have := hQ v hv
    rw [pii_0, if_neg (by decide), if_neg (by decide), Nat.add_zero, Nat.add_zero] at this
    rw [← ek]; exact this
  | succ e ih =>
    intro k n M hk hn hR hP hQ hE
    obtain ⟨n2, rfl⟩ : ∃ n2, n = n2 + 1 := ⟨n - 1, by omega⟩
    rw [qX9_laysVertices, if_neg (by decide), if_pos rfl]
    unfold pX9_laysVertices_30
    have cm : ¬ g_mi M (b + 2) 0 ≤ iZ (k : Int) := by rw [hR 0 (by omega), iZ_le (by omega) (by omega) (by omega) (by omega)]; omega
    refine ⟨fun z => absurd z cm, fun _ => ?_⟩
    refine ml_key hV s0 s1 (by omega) 3 0 n2 M (by omega) (by omega) hR hP (fun j hj => by omega) hQ (fun M1 n1 f1 p1 q1 hn1 => ?_)
    exact ih (k + 1) n1 M1 (by omega) (by omega) (hR.fm f1) p1 q1 (fun M2 f2 => hE M2 (f1.tr f2))
theorem ml_zero {R : gM → Prop} (hV : Vk r) (s0 : 0 ≤ s) (s1 : s ≤ 255) {M0 : gM} (hR : Rr M0 b r) (hE : ∀ M1, Fm b M0 M1 → Pv M1 (b + 16) (vtR r s (r 31)) (r 0).toNat → Pdm M1 b (vtR r s (r 31)) (r 0).toNat (fun _ => true) → R M1) : ∀ (e u n : Nat) (M : gM), u + e = 60 → e + 200 ≤ n → Fm b M0 M → (∀ v, v < u → g_mi M (b + 17) v = 0 ∧ g_mi M (b + 18) v = 0) → qX9_laysVertices N K R n 0 M b (iZ s) (iZ u) 0 := by
  have m1 := hV.1
  have m2 := hV.2.1
  intro e
  induction e with
  | zero =>
    intro u n M hu hn f hz
    obtain ⟨n2, rfl⟩ : ∃ n2, n = n2 + 1 := ⟨n - 1, by omega⟩
    rw [qX9_laysVertices, if_pos rfl]
    unfold pX9_laysVertices_2
    have cm : (60 : Int32) ≤ iZ (u : Int) := by rw [iZ_l60, iZ_le (by omega) (by omega) (by omega) (by omega)]; omega
    refine ⟨fun _ => ?_, fun z => absurd cm z⟩
    refine ml_all hV s0 s1 (r 0).toNat 0 n2 M (by omega) (by omega) (hR.fm f) (fun k i hk => by omega) (fun v hv => ?_) (fun M2 f2 => hE M2 (f.tr f2))
    rw [pii_0, if_neg (by decide), if_neg (by decide), (hz v (by omega)).1, (hz v (by omega)).2]
    exact ⟨rfl, rfl⟩
  | succ e ih =>
    intro u n M hu hn f hz
    obtain ⟨n2, rfl⟩ : ∃ n2, n = n2 + 1 := ⟨n - 1, by omega⟩
    rw [qX9_laysVertices, if_pos rfl]
    unfold pX9_laysVertices_2
    have cm : ¬ (60 : Int32) ≤ iZ (u : Int) := by rw [iZ_l60, iZ_le (by omega) (by omega) (by omega) (by omega)]; omega
    have vu : vp_in (iZ (u : Int)) 60 := iZ_in (by omega) (by omega) (by omega)
    rw [iZ_cl (show u < 2147483648 by omega), iZ_s1]
    refine ⟨fun z => absurd z cm, fun _ => ⟨vu, fun M1 h1 => ⟨vu, fun M2 h2 => ?_⟩⟩⟩
    have g : ∀ c j, g_mi M2 c j = if c = b + 18 ∧ j = u then 0 else if c = b + 17 ∧ j = u then 0 else g_mi M c j := fun c j => by rw [h2, mi_wi, h1, mi_wi]
    refine ih (u + 1) n2 M2 (by omega) (by omega) (f.tr (fun c q1 q2 q3 => by funext j; rw [g, if_neg (by omega), if_neg (by omega)])) (fun v hv => ?_)
    rcases Nat.lt_or_ge v u with z | z
    · rw [g, if_neg (by omega), if_neg (by omega), g, if_neg (by omega), if_neg (by omega)]; exact hz v z
    · rw [show v = u by omega, g, if_neg (by omega), if_pos ⟨rfl, rfl⟩, g, if_pos ⟨rfl, rfl⟩]; exact ⟨rfl, rfl⟩
theorem ml_ok {M : gM} {R : gM → Prop} (hN : 500 ≤ N) (hV : Vk r) (s0 : 0 ≤ s) (s1 : s ≤ 255) (hR : Rr M b r) (hE : ∀ M1, Fm b M M1 → Pv M1 (b + 16) (vtR r s (r 31)) (r 0).toNat → Pdm M1 b (vtR r s (r 31)) (r 0).toNat (fun _ => true) → R M1) : pX9_laysVertices N K M b (iZ s) R := by
  unfold pX9_laysVertices pX9_laysVertices_0
  exact ml_zero hV s0 s1 hR hE 60 0 N M (by omega) (by omega) (fun _ _ _ _ => rfl) (fun v hv => by omega)
end MLAY
section MNF
variable {N K b : Nat} {vt : Nat → Nat → Nat} {m V : Nat} {S : Nat → Bool} {d : Int}
theorem mf_loop {M : gM} {R : Int32 → Prop} {rk : Nat → Int} (hV : Vd vt m V) (hd : g_mi M (b + 2) 31 = iZ d) (hVd : (V : Int) = 3 * d) (hD : Pdm M b vt m S) (hr : ∀ v, v < V → g_mi M (b + 15) v = iZ (rk v) ∧ 0 ≤ rk v ∧ rk v ≤ 99) : ∀ (e u n : Nat) (o : Option Nat), u + e = V → e + 1 ≤ n → (∀ w, o = some w → w < u) → R (iZ (oI (nfr (fun v => decide (dgS vt m S v = 1)) rk e u o))) → qX9_nextFree N K R n 0 M b (iZ (oI o)) (iZ u) := by
  have v60 := hV.2.1
  have m30 := hV.1
  have vm : fX9_vertexMany M b = iZ (V : Int) := by unfold fX9_vertexMany; rw [hd, iZ_l3, iZ_mul, hVd]
  intro e
  induction e with
  | zero =>
    intro u n o hu hn ho hR
    obtain ⟨n2, rfl⟩ : ∃ n2, n = n2 + 1 := ⟨n - 1, by omega⟩
    rw [qX9_nextFree]
    unfold pX9_nextFree_4
    intro v1 hv1
    rw [vm] at hv1
    subst hv1
    have c1 : iZ (V : Int) ≤ iZ (u : Int) := by rw [iZ_le (by omega) (by omega) (by omega) (by omega)]; omega
    exact ⟨fun _ => hR, fun z => absurd c1 z⟩
  | succ e ih =>
    intro u n o hu hn ho hR
    obtain ⟨n2, rfl⟩ : ∃ n2, n = n2 + 1 := ⟨n - 1, by omega⟩
    rw [nfr_s] at hR
    rw [qX9_nextFree]
    unfold pX9_nextFree_4
    intro v1 hv1
    rw [vm] at hv1
    subst hv1
    have c1 : ¬ iZ (V : Int) ≤ iZ (u : Int) := by rw [iZ_le (by omega) (by omega) (by omega) (by omega)]; omega
    have dle : dgS vt m S u ≤ m := cnt_le _ _
    have eq1 : (iZ ((dgS vt m S u : Nat) : Int) = 1) = (dgS vt m S u = 1) := by
      rw [iZ_l1, iZ_eq (by omega) (by omega) (by omega) (by omega)]; exact propext ⟨fun _ => by omega, fun _ => by omega⟩
    rw [iZ_cl (show u < 2147483648 by omega), (hD u (by omega)).1, eq1, (hr u (by omega)).1, iZ_s1, oI_n (fun w hw => by have := ho w hw; omega)]
    have bu : ∀ w, (some u : Option Nat) = some w → w < u + 1 := fun w hw => by cases hw; omega
    refine ⟨fun z => absurd z c1, fun _ => ⟨iZ_in (by omega) (by omega) (by omega), fun z => ?_, fun z => ⟨fun y => ?_, fun y => ?_⟩⟩⟩
    · rw [nst_0 (by simp [z])] at hR
      exact ih (u + 1) n2 o (by omega) (by omega) (fun w hw => by have := ho w hw; omega) hR
    · rw [y, nst_n (by simp [z])] at hR
      exact ih (u + 1) n2 (some u) (by omega) (by omega) bu hR
    · cases hbb : o with
      | none => exact absurd hbb y
      | some w =>
        have wu := ho w hbb
        rw [hbb, nst_s (by simp [z])] at hR
        have cw := iZ_cl (show w < 2147483648 by omega)
        unfold oI at *
        dsimp only at *
        rw [cw, (hr w (by omega)).1, iZ_le (by have := (hr w (by omega)).2; omega) (by have := (hr w (by omega)).2; omega) (by have := (hr u (by omega)).2; omega) (by have := (hr u (by omega)).2; omega)]
        refine ⟨iZ_in (by omega) (by omega) (by omega), fun x => ?_, fun x => ?_⟩
        · rw [if_pos x] at hR
          exact ih (u + 1) n2 (some w) (by omega) (by omega) (fun w2 hw => by cases hw; omega) hR
        · rw [if_neg x] at hR
          exact ih (u + 1) n2 (some u) (by omega) (by omega) bu hR
end MNF
