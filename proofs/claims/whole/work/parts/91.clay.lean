/-! Peeling: the class lays vertices down. -/
def vtR (r : Nat → Int) (s d : Int) (k i : Nat) : Nat := (vx (r (1 + k)) i s d).toNat
theorem vtR_V {r : Nat → Int} {s d : Int} (hV : Vk r) (d0 : 2 ≤ d) (d1 : d ≤ 20) : Vd (vtR r s d) (r 0).toNat (3 * d).toNat := by
  have h1 := hV.1
  have h2 := hV.2.1
  refine ⟨by omega, by omega, fun k hk => ?_⟩
  unfold vtR
  have b0 := vx_b (k := r (1 + k)) (j := ((0 : Nat) : Int)) (s := s) d0
  have b1 := vx_b (k := r (1 + k)) (j := ((1 : Nat) : Int)) (s := s) d0
  have b2 := vx_b (k := r (1 + k)) (j := ((2 : Nat) : Int)) (s := s) d0
  rw [show ((0 : Nat) : Int) = 0 from rfl] at b0
  rw [show ((1 : Nat) : Int) = 1 from rfl] at b1
  rw [show ((2 : Nat) : Int) = 2 from rfl] at b2
  rw [show ((0 : Nat) : Int) = 0 from rfl, show ((1 : Nat) : Int) = 1 from rfl, show ((2 : Nat) : Int) = 2 from rfl]
  omega
/-- its first i vertices -/
def pii (vt : Nat → Nat → Nat) (k i v : Nat) : Bool := (decide (0 < i) && decide (vt k 0 = v)) || (decide (1 < i) && decide (vt k 1 = v)) || (decide (2 < i) && decide (vt k 2 = v))
theorem pii_0 {vt : Nat → Nat → Nat} {k v : Nat} : pii vt k 0 v = false := by unfold pii; simp
theorem pii_3 {vt : Nat → Nat → Nat} {k v : Nat} : pii vt k 3 v = ic vt k v := by unfold pii ic; simp
theorem pii_s {vt : Nat → Nat → Nat} {k i v : Nat} (hi : i < 3) : pii vt k (i + 1) v = (pii vt k i v || decide (vt k i = v)) := by
  rcases (show i = 0 ∨ i = 1 ∨ i = 2 by omega) with z | z | z <;> subst z <;> unfold pii <;> simp
theorem pii_w {vt : Nat → Nat → Nat} {m V k i : Nat} (hV : Vd vt m V) (hk : k < m) (hi : i < 3) : pii vt k i (vt k i) = false ∧ vt k i < V := by
  have := hV.2.2 k hk
  rcases (show i = 0 ∨ i = 1 ∨ i = 2 by omega) with z | z | z <;> subst z <;> unfold pii <;> simp <;> omega
/-- degrees, keys of vertices in the class's rows; a key's vertices -/
def Pv (M : gM) (c : Nat) (vt : Nat → Nat → Nat) (m : Nat) : Prop := ∀ k i, k < m → i < 3 → g_mi M c (3 * k + i) = iZ (vt k i)
def Pd (M : gM) (a : Nat) (vt : Nat → Nat → Nat) (m : Nat) (S : Nat → Bool) : Prop := ∀ v, v < 60 → g_mi M (a + 4) v = iZ (dgS vt m S v) ∧ g_mi M (a + 5) v = xrS (pS vt S v) m
/-- all keys below k, and the first i vertices of key k -/
def Pp (M : gM) (a : Nat) (vt : Nat → Nat → Nat) (k i : Nat) : Prop := ∀ v, v < 60 → g_mi M (a + 4) v = iZ ((dgS vt k (fun _ => true) v + (if pii vt k i v = true then 1 else 0) : Nat) : Int) ∧ g_mi M (a + 5) v = if pii vt k i v = true then xrS (pS vt (fun _ => true) v) k ^^^ iZ k else xrS (pS vt (fun _ => true) v) k
def Fl (a : Nat) (M M1 : gM) : Prop := ∀ c, c ≠ a + 1 → c ≠ a + 4 → c ≠ a + 5 → g_mi M1 c = g_mi M c
theorem Pp.nx {M : gM} {a : Nat} {vt : Nat → Nat → Nat} {k : Nat} (h : Pp M a vt k 3) : Pp M a vt (k + 1) 0 := by
  intro v hv
  have := h v hv
  rw [pii_3] at this
  rw [pii_0, if_neg (by decide), if_neg (by decide), this.1, this.2]
  unfold dgS
  rw [xrS, cnt]
  have e : pS vt (fun _ => true) v k = ic vt k v := by unfold pS; rfl
  rw [e]
  exact ⟨rfl, rfl⟩
section CLAY
variable {N K a st : Nat} {r : Nat → Int} {s d : Int}
theorem Fl.tr {M M1 M2 : gM} (h : Fl a M M1) (h2 : Fl a M1 M2) : Fl a M M2 := fun c q1 q2 q3 => (h2 c q1 q2 q3).trans (h c q1 q2 q3)
theorem Rk.fl {M M1 : gM} (h : Rk M st r) (f : Fl a M M1) (ds : st + 2 < a ∨ a + 5 < st) : Rk M1 st r := by
  unfold Rk
  rw [f st (by omega) (by omega) (by omega), f (st + 1) (by omega) (by omega) (by omega), f (st + 2) (by omega) (by omega) (by omega)]
  exact h
theorem vtR_i {k i : Nat} (hV : Vk r) (d0 : 2 ≤ d) (d1 : d ≤ 20) (hi : i < 3) : ((vtR r s d k i : Nat) : Int) = vx (r (1 + k)) i s d := by
  unfold vtR
  have := vx_n (k := r (1 + k)) (j := (i : Int)) (s := s) (by omega) (by omega) d0 d1
  omega
theorem lay_key {R : gM → Prop} {k : Nat} (hV : Vk r) (s0 : 0 ≤ s) (s1 : s ≤ 255) (d0 : 2 ≤ d) (d1 : d ≤ 20) (ds : st + 2 < a ∨ a + 5 < st) (hk : k < (r 0).toNat) : ∀ (e i n : Nat) (M : gM), i + e = 3 → e + 1 ≤ n → Rk M st r → Pv M (a + 1) (vtR r s d) k → (∀ j, j < i → g_mi M (a + 1) (3 * k + j) = iZ (vtR r s d k j)) → Pp M a (vtR r s d) k i → (∀ M1 n1, Fl a M M1 → Pv M1 (a + 1) (vtR r s d) (k + 1) → Pp M1 a (vtR r s d) (k + 1) 0 → n ≤ n1 + e + 1 → qX1_lay N K R n1 0 M1 a st (iZ s) (iZ d) (iZ ((k + 1 : Nat) : Int)) 0) → qX1_lay N K R n 1 M a st (iZ s) (iZ d) (iZ k) (iZ i) := by
  have m1 := hV.1
  have m2 := hV.2.1
  have hVd := vtR_V (s := s) hV d0 d1
  intro e
  induction e with
  | zero =>
    intro i n M hi hn hR hP hPi hQ hE
    obtain ⟨n2, rfl⟩ : ∃ n2, n = n2 + 1 := ⟨n - 1, by omega⟩
    have e3 : i = 3 := by omega
    subst e3
    rw [qX1_lay, if_neg (by decide)]
    unfold pX1_lay_31
    rw [iZ_s1]
    refine ⟨fun _ => hE M n2 (fun _ _ _ _ => rfl) (fun k2 i2 h1 h2 => ?_) hQ.nx (by omega), fun z => absurd (by decide) z⟩
    rcases Nat.lt_or_ge k2 k with z | z
    · exact hP k2 i2 z h2
    · rw [show k2 = k by omega]; exact hPi i2 h2
  | succ e ih =>
    intro i n M hi hn hR hP hPi hQ hE
    obtain ⟨n2, rfl⟩ : ∃ n2, n = n2 + 1 := ⟨n - 1, by omega⟩
    have hi3 : i < 3 := by omega
    obtain ⟨pw, wV⟩ := pii_w hVd hk hi3
    have wV60 := hVd.2.1
    have key := hR.2.1 k (by omega)
    have kb := hV.2.2.1 k (by omega)
    have vi := vtR_i (s := s) (k := k) hV d0 d1 hi3
    rw [qX1_lay, if_neg (by decide)]
    unfold pX1_lay_31
    have c3 : ¬ (3 : Int32) ≤ iZ (i : Int) := by rw [iZ_l3, iZ_le (by omega) (by omega) (by omega) (by omega)]; omega
    rw [iZ_cl (show k < 2147483648 by omega), key, vx_8 kb.1 (by omega) (show (0 : Int) ≤ (i : Int) by omega) (by omega) s0 s1 d0 d1, ← vi, iZ_s1, iZ_s1]
    refine ⟨fun z => absurd z c3, fun _ => ⟨iZ_in (by omega) (by omega) (by omega), vx_E8 d0 d1, fun v1 hv1 => ?_⟩⟩
    subst hv1
    rw [show (3 : Int32) * iZ (k : Int) + iZ (i : Int) = iZ ((3 * k + i : Nat) : Int) by rw [iZ_l3, iZ_mul, iZ_add]; congr 1, iZ_cl (show 3 * k + i < 2147483648 by omega), iZ_cl (show vtR r s d k i < 2147483648 by omega)]
    have vw : vp_in (iZ ((vtR r s d k i : Nat) : Int)) 60 := iZ_in (by omega) (by omega) (by omega)
    refine ⟨iZ_in (by omega) (by omega) (by omega), fun M1 h1 => ⟨vw, fun M2 h2 => ⟨vw, fun M3 h3 => ?_⟩⟩⟩
    have q := hQ (vtR r s d k i) (by omega)
    rw [pw, if_neg (by decide), if_neg (by decide)] at q
    have g1 : g_mi M1 (a + 4) (vtR r s d k i) = g_mi M (a + 4) (vtR r s d k i) := by rw [h1, mi_wi, if_neg (by omega)]
    have g2 : g_mi M2 (a + 5) (vtR r s d k i) = g_mi M (a + 5) (vtR r s d k i) := by rw [h2, mi_wi, if_neg (by omega), h1, mi_wi, if_neg (by omega)]
    rw [g1, q.1, Nat.add_zero, iZ_s1] at h2
    rw [g2, q.2] at h3
    have g : ∀ c j, g_mi M3 c j = if c = a + 5 ∧ j = vtR r s d k i then xrS (pS (vtR r s d) (fun _ => true) (vtR r s d k i)) k ^^^ iZ k else if c = a + 4 ∧ j = vtR r s d k i then iZ ((dgS (vtR r s d) k (fun _ => true) (vtR r s d k i) + 1 : Nat) : Int) else if c = a + 1 ∧ j = 3 * k + i then iZ ((vtR r s d k i : Nat) : Int) else g_mi M c j := fun c j => by rw [h3, mi_wi, h2, mi_wi, h1, mi_wi]
    have f3 : Fl a M M3 := fun c q1 q2 q3 => by funext j; rw [g, if_neg (by omega), if_neg (by omega), if_neg (by omega)]
    refine ih (i + 1) n2 M3 (by omega) (by omega) (hR.fl f3 ds) (fun k2 i2 q1 q2 => ?_) (fun j hj => ?_) (fun v hv => ?_) (fun M4 n1 f4 p4 q4 hn4 => hE M4 n1 (f3.tr f4) p4 q4 (by omega))
    · rw [g, if_neg (by omega), if_neg (by omega), if_neg (by omega)]; exact hP k2 i2 q1 q2
    · rcases Nat.lt_or_ge j i with z | z
      · rw [g, if_neg (by omega), if_neg (by omega), if_neg (by omega)]; exact hPi j z
      · have ej : j = i := by omega
        rw [ej, g, if_neg (by omega), if_neg (by omega), if_pos ⟨rfl, rfl⟩]
    · rw [pii_s hi3]
      by_cases c : vtR r s d k i = v
      · subst c
        rw [pw, show (false || decide (vtR r s d k i = vtR r s d k i)) = true by simp, if_pos rfl, if_pos rfl, g, if_neg (by omega), if_pos ⟨rfl, rfl⟩, g, if_pos ⟨rfl, rfl⟩]
        exact ⟨rfl, rfl⟩
      · have e4 : g_mi M3 (a + 4) v = g_mi M (a + 4) v := by rw [g, if_neg (by omega), if_neg (by omega), if_neg (by omega)]
        have e5 : g_mi M3 (a + 5) v = g_mi M (a + 5) v := by rw [g, if_neg (by omega), if_neg (by omega), if_neg (by omega)]
        rw [show (pii (vtR r s d) k i v || decide (vtR r s d k i = v)) = pii (vtR r s d) k i v by simp [c], e4, e5]
        exact hQ v hv
theorem lay_all {R : gM → Prop} (hV : Vk r) (s0 : 0 ≤ s) (s1 : s ≤ 255) (d0 : 2 ≤ d) (d1 : d ≤ 20) (ds : st + 2 < a ∨ a + 5 < st) : ∀ (e k n : Nat) (M : gM), k + e = (r 0).toNat → 5 * e + 1 ≤ n → Rk M st r → Pv M (a + 1) (vtR r s d) k → Pp M a (vtR r s d) k 0 → (∀ M1, Fl a M M1 → Pv M1 (a + 1) (vtR r s d) (r 0).toNat → Pd M1 a (vtR r s d) (r 0).toNat (fun _ => true) → R M1) → qX1_lay N K R n 0 M a st (iZ s) (iZ d) (iZ k) 0 := by
  have m1 := hV.1
  have m2 := hV.2.1
  intro e
  induction e with
  | zero =>
    intro k n M hk hn hR hP hQ hE
    obtain ⟨n2, rfl⟩ : ∃ n2, n = n2 + 1 := ⟨n - 1, by omega⟩
    rw [qX1_lay, if_pos rfl]
    unfold pX1_lay_19
    have cm : g_mi M st 3 ≤ iZ (k : Int) := by rw [hR.1, iZ_le (by omega) (by omega) (by omega) (by omega)]; omega
    refine ⟨fun _ => ?_, fun z => absurd cm z⟩
    have ek : k = (r 0).toNat := by omega
    refine hE M (fun _ _ _ _ => rfl) (by rw [← ek]; exact hP) (fun v hv => ?_)
    have := hQ v hv
    rw [pii_0, if_neg (by decide), if_neg (by decide), Nat.add_zero] at this
    rw [← ek]; exact this
  | succ e ih =>
    intro k n M hk hn hR hP hQ hE
    obtain ⟨n2, rfl⟩ : ∃ n2, n = n2 + 1 := ⟨n - 1, by omega⟩
    rw [qX1_lay, if_pos rfl]
    unfold pX1_lay_19
    have cm : ¬ g_mi M st 3 ≤ iZ (k : Int) := by rw [hR.1, iZ_le (by omega) (by omega) (by omega) (by omega)]; omega
    refine ⟨fun z => absurd z cm, fun _ => ?_⟩
    refine lay_key hV s0 s1 d0 d1 ds (by omega) 3 0 n2 M (by omega) (by omega) hR hP (fun j hj => by omega) hQ (fun M1 n1 f1 p1 q1 hn1 => ?_)
    exact ih (k + 1) n1 M1 (by omega) (by omega) (hR.fl f1 ds) p1 q1 (fun M2 f2 => hE M2 (f1.tr f2))
/-- the class has laid all vertices -/
theorem lay_ok {M : gM} {R : gM → Prop} (hN : 500 ≤ N) (hV : Vk r) (hR : Rk M st r) (s0 : 0 ≤ s) (s1 : s ≤ 255) (d0 : 2 ≤ d) (d1 : d ≤ 20) (ds : st + 2 < a ∨ a + 5 < st) (hE : ∀ M1, Fl a M M1 → Pv M1 (a + 1) (vtR r s d) (r 0).toNat → Pd M1 a (vtR r s d) (r 0).toNat (fun _ => true) → R M1) : pX1_lay N K M a st (iZ s) (iZ d) R := by
  unfold pX1_lay pX1_lay_0
  have m1 := hV.1
  have m2 := hV.2.1
  refine ⟨fill_E (by omega) (by omega), fun M1 h1 => ⟨fill_E (by omega) (by omega), fun M2 h2 => ?_⟩⟩
  rw [fill_m (by omega) (by omega)] at h1 h2
  have g : ∀ c j, g_mi M2 c j = if c = a + 5 ∧ j < 60 then 0 else if c = a + 4 ∧ j < 60 then 0 else g_mi M c j := fun c j => by rw [h2, h1]; rfl
  have f2 : Fl a M M2 := fun c q1 q2 q3 => by funext j; rw [g, if_neg (by omega), if_neg (by omega)]
  refine lay_all hV s0 s1 d0 d1 ds (r 0).toNat 0 N M2 (by omega) (by omega) (hR.fl f2 ds) (fun k i hk => by omega) (fun v hv => ?_) (fun M3 f3 => hE M3 (f2.tr f3))
  rw [pii_0, if_neg (by decide), if_neg (by decide), g, if_neg (by omega), if_pos ⟨rfl, hv⟩, g, if_pos ⟨rfl, hv⟩]
  exact ⟨rfl, rfl⟩
end CLAY
