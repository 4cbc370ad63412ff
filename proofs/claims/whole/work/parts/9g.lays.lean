/-! The reference lays a text into its row. -/
def laR (r : Nat → Int) (t : Nat) (cd vl : Nat → Int) (T i : Nat) : Nat → Int := fun j => if j = 205 + t then (T : Int) else if 212 + 400 * t ≤ j ∧ j < 212 + 400 * t + i then cd (j - (212 + 400 * t)) else if 3012 + 400 * t ≤ j ∧ j < 3012 + 400 * t + i then vl (j - (3012 + 400 * t)) else r j
theorem laR_o {r : Nat → Int} {t : Nat} {cd vl : Nat → Int} {T i j : Nat} (h1 : j ≠ 205 + t) (h2 : j < 212 + 400 * t ∨ 212 + 400 * t + i ≤ j) (h3 : j < 3012 + 400 * t ∨ 3012 + 400 * t + i ≤ j) : laR r t cd vl T i j = r j := by
  unfold laR
  rw [if_neg h1, if_neg (by omega), if_neg (by omega)]
theorem laR_lo {r : Nat → Int} {t : Nat} {cd vl : Nat → Int} {T i j : Nat} (h : j < 205) : laR r t cd vl T i j = r j := laR_o (by omega) (Or.inl (by omega)) (Or.inl (by omega))
theorem laR_V {r : Nat → Int} {t : Nat} {cd vl : Nat → Int} {T i : Nat} (hV : Vk r) : Vk (laR r t cd vl T i) := by
  have h1 := hV.2.2.2.2
  exact hV.up (fun i hi => laR_lo (by omega)) (by rw [laR_lo (by omega)]; exact h1.1) (by rw [laR_lo (by omega)]; exact h1.2.1) (by rw [laR_lo (by omega)]; exact h1.2.2.1) (by rw [laR_lo (by omega)]; exact h1.2.2.2.1) (by rw [laR_lo (by omega)]; exact h1.2.2.2.2.1) (by rw [laR_lo (by omega)]; exact h1.2.2.2.2.2)
/-- the text laid is a law; the others stay -/
theorem laR_L {r : Nat → Int} {t T : Nat} {cd vl : Nat → Int} {cs : List (Nat × Cl)} (ht : t ≤ 6) (hT : T ≤ 400) (h0 : cd T = 0) (hb : ∀ i, i < T → 0 ≤ cd i ∧ cd i ≤ 355 ∧ 0 ≤ vl i ∧ vl i ≤ 20000000) (h : RA cd vl false T 12 0 0 = .inr cs) : Lr (laR r t cd vl T T) t cs := by
  refine ⟨cd, vl, T, hT, h0, by unfold laR; rw [if_pos rfl], fun i hi => ⟨?_, ?_, hb i hi⟩, h⟩
  · unfold laR
    rw [if_neg (by omega), if_pos (by omega)]
    congr 1
    omega
  · unfold laR
    rw [if_neg (by omega), if_neg (by omega), if_pos (by omega)]
    congr 1
    omega
theorem laR_K {r : Nat → Int} {t u T : Nat} {cd vl : Nat → Int} {cs : List (Nat × Cl)} (ht : t ≤ 6) (hu : u ≤ 6) (hn : u ≠ t) (hT : T ≤ 400) (h : Lr r u cs) : Lr (laR r t cd vl T T) u cs := by
  obtain ⟨cd2, vl2, T2, h1, h2, h3, h4, h5⟩ := h
  refine ⟨cd2, vl2, T2, h1, h2, ?_, fun i hi => ?_, h5⟩
  · rw [laR_o (by omega) (Or.inl (by omega)) (Or.inl (by omega))]; exact h3
  · have o1 : laR r t cd vl T T (212 + (400 * u + i)) = r (212 + (400 * u + i)) := laR_o (by omega) (by omega) (Or.inl (by omega))
    have o2 : laR r t cd vl T T (3012 + (400 * u + i)) = r (3012 + (400 * u + i)) := laR_o (by omega) (Or.inr (by omega)) (by omega)
    rw [o1, o2]
    exact h4 i hi
section LAYS
variable {N K b : Nat} {r : Nat → Int} {cd vl pl : Nat → Int} {T t : Nat}
theorem la_loop {M0 : gM} {R : gM → Prop} (ht : t ≤ 6) (hk : Tk M0 b cd vl pl T) (h18 : g_mi M0 b 18 = iZ T) (hE : ∀ M1, (∀ c j, c ≠ b + 2 → g_mi M1 c j = g_mi M0 c j) → Rr M1 b (laR r t cd vl T T) → R M1) : ∀ (e i n : Nat) (M : gM), i + e = T → e + 1 ≤ n → (∀ c j, c ≠ b + 2 → g_mi M c j = g_mi M0 c j) → Rr M b (laR r t cd vl T i) → qX9_lays N K R n 0 M b (iZ t) (iZ i) := by
  have hT := hk.1
  intro e
  induction e with
  | zero =>
    intro i n M hi hn f hR
    obtain ⟨n2, rfl⟩ : ∃ n2, n = n2 + 1 := ⟨n - 1, by omega⟩
    have ei : i = T := by omega
    subst ei
    rw [qX9_lays]
    unfold pX9_lays_16
    rw [f _ _ (by omega), h18]
    exact ⟨fun _ => hE M f hR, fun z => absurd (Int32.le_refl _) z⟩
  | succ e ih =>
    intro i n M hi hn f hR
    obtain ⟨n2, rfl⟩ : ∃ n2, n = n2 + 1 := ⟨n - 1, by omega⟩
    obtain ⟨q1, q2, _⟩ := hk.2.2 i (by omega)
    rw [qX9_lays]
    unfold pX9_lays_16
    have c1 : ¬ iZ (T : Int) ≤ iZ (i : Int) := by rw [iZ_le (by omega) (by omega) (by omega) (by omega)]; omega
    have e1 : (212 : Int32) + 400 * iZ (t : Int) + iZ (i : Int) = iZ ((212 + 400 * t + i : Nat) : Int) := by
      rw [show (212 : Int32) = iZ 212 from rfl, show (400 : Int32) = iZ 400 from rfl, iZ_mul, iZ_add, iZ_add]; congr 1
    have e2 : (3012 : Int32) + 400 * iZ (t : Int) + iZ (i : Int) = iZ ((3012 + 400 * t + i : Nat) : Int) := by
      rw [show (3012 : Int32) = iZ 3012 from rfl, show (400 : Int32) = iZ 400 from rfl, iZ_mul, iZ_add, iZ_add]; congr 1
    rw [f b 18 (by omega), h18, e1, e2, iZ_cl (show i < 2147483648 by omega), iZ_cl (show 212 + 400 * t + i < 2147483648 by omega), iZ_cl (show 3012 + 400 * t + i < 2147483648 by omega), iZ_s1, f (b + 9) _ (by omega), q1]
    have vi : vp_in (iZ (i : Int)) 401 := iZ_in (by omega) (by omega) (by omega)
    refine ⟨fun z => absurd z c1, fun _ => ⟨vi, iZ_in (by omega) (by omega) (by omega), fun M1 h1 => ⟨vi, iZ_in (by omega) (by omega) (by omega), fun M2 h2 => ?_⟩⟩⟩
    have k1 : ∀ c j, c ≠ b + 2 → g_mi M1 c j = g_mi M0 c j := fun c j q => by rw [h1, mi_wi, if_neg (by omega)]; exact f c j q
    rw [k1 _ _ (by omega), q2] at h2
    refine ih (i + 1) n2 M2 (by omega) (by omega) (fun c j q => by rw [h2, mi_wi, if_neg (by omega)]; exact k1 c j q) (fun j hj => ?_)
    have row := hR j hj
    by_cases a1 : j = 3012 + 400 * t + i
    · rw [h2, mi_wi, if_pos ⟨rfl, a1⟩]
      unfold laR
      rw [if_neg (by omega), if_neg (by omega), if_pos (by omega)]
      congr 2
      omega
    · rw [h2, mi_wi, if_neg (by omega)]
      by_cases a2 : j = 212 + 400 * t + i
      · rw [h1, mi_wi, if_pos ⟨rfl, a2⟩]
        unfold laR
        rw [if_neg (by omega), if_pos (by omega)]
        congr 2
        omega
      · rw [h1, mi_wi, if_neg (by omega), row]
        congr 1
        unfold laR
        by_cases a3 : j = 205 + t
        · rw [if_pos a3, if_pos a3]
        · rw [if_neg a3, if_neg a3]
          by_cases a4 : 212 + 400 * t ≤ j ∧ j < 212 + 400 * t + i
          · have n4 : 212 + 400 * t ≤ j ∧ j < 212 + 400 * t + (i + 1) := by omega
            rw [if_pos a4, if_pos n4]
          · have n4 : ¬ (212 + 400 * t ≤ j ∧ j < 212 + 400 * t + (i + 1)) := by omega
            rw [if_neg a4, if_neg n4]
            by_cases a5 : 3012 + 400 * t ≤ j ∧ j < 3012 + 400 * t + i
            · have n5 : 3012 + 400 * t ≤ j ∧ j < 3012 + 400 * t + (i + 1) := by omega
              rw [if_pos a5, if_pos n5]
            · have n5 : ¬ (3012 + 400 * t ≤ j ∧ j < 3012 + 400 * t + (i + 1)) := by omega
              rw [if_neg a5, if_neg n5]
/-- a text laid -/
theorem la_ok {M : gM} {R : gM → Prop} (hN : 500 ≤ N) (ht : t ≤ 6) (hR : Rr M b r) (hk : Tk M b cd vl pl T) (h18 : g_mi M b 18 = iZ T) (hE : ∀ M1, (∀ c j, c ≠ b + 2 → g_mi M1 c j = g_mi M c j) → Rr M1 b (laR r t cd vl T T) → R M1) : pX9_lays N K M b (iZ t) R := by
  have hT := hk.1
  unfold pX9_lays pX9_lays_0
  rw [show (205 : Int32) + iZ (t : Int) = iZ ((205 + t : Nat) : Int) by rw [show (205 : Int32) = iZ 205 from rfl, iZ_add]; congr 1, iZ_cl (show 205 + t < 2147483648 by omega), h18]
  refine ⟨iZ_in (by omega) (by omega) (by omega), fun M1 h1 => ?_⟩
  have k1 : ∀ c j, c ≠ b + 2 → g_mi M1 c j = g_mi M c j := fun c j q => by rw [h1, mi_wi, if_neg (by omega)]
  have hk1 : Tk M1 b cd vl pl T := by
    refine ⟨hT, hk.2.1, fun i hi => ?_⟩
    rw [k1 _ _ (by omega), k1 _ _ (by omega), k1 _ _ (by omega)]
    exact hk.2.2 i hi
  refine la_loop (M0 := M1) ht hk1 (by rw [k1 _ _ (by omega)]; exact h18) (fun M2 f2 R2 => hE M2 (fun c j q => (f2 c j q).trans (k1 c j q)) R2) T 0 N M1 (by omega) (by omega) (fun _ _ _ => rfl) (fun j hj => ?_)
  by_cases a3 : j = 205 + t
  · rw [h1, mi_wi, if_pos ⟨rfl, a3⟩]
    unfold laR
    rw [if_pos a3]
  · rw [h1, mi_wi, if_neg (by omega), hR j hj, laR_o a3 (by omega) (by omega)]
end LAYS
