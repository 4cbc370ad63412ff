/-! The table: the class settles a vertex. -/
def otF (f : Nat → Int) (vt : Nat → Nat → Nat) (k v : Nat) : Nat → Int
  | 0 => 0
  | i + 1 => otF f vt k v i + (if vt k i = v then 0 else f (vt k i))
theorem otF_b {f : Nat → Int} {vt : Nat → Nat → Nat} {k v B : Nat} (h : ∀ u, u < 60 → 0 ≤ f u ∧ f u ≤ B) (hv : ∀ i, i < 3 → vt k i < 60) : ∀ i, i ≤ 3 → 0 ≤ otF f vt k v i ∧ otF f vt k v i ≤ i * B := by
  intro i
  induction i with
  | zero => intro _; exact ⟨Int.le_refl _, by unfold otF; omega⟩
  | succ i ih =>
    intro hi
    have a := ih (by omega)
    have c := h (vt k i) (hv i (by omega))
    unfold otF
    rw [show ((i + 1 : Nat) : Int) * (B : Int) = (i : Int) * B + B by rw [Int.natCast_add, Int.add_mul]; omega]
    split <;> omega
section SET
variable {N K t c3 : Nat} {vt : Nat → Nat → Nat} {m V k v : Nat} {sg sp : Nat → Int}
theorem se_ok {M : gM} {R : gM → Prop} {d mm : Int} (hN : 500 ≤ N) (hV : Vd vt m V) (hk : k < m) (hv : v < 60) (hP : Pv M c3 vt m) (h5 : g_mi M t 5 = iZ d) (h4 : g_mi M t 4 = iZ mm) (d0 : 2 ≤ d) (d1 : d ≤ 20) (m0 : 1 ≤ mm) (m1 : mm ≤ 30) (hs : ∀ u, u < 60 → g_mi M (t + 2) u = iZ (sg u) ∧ 0 ≤ sg u ∧ sg u ≤ 3) (hp : ∀ u, u < 60 → g_mi M (t + 3) u = iZ (sp u) ∧ 0 ≤ sp u ∧ sp u ≤ 29) (hE : ∀ M1, (∀ c j, (c ≠ t + 2 ∧ c ≠ t + 3) ∨ j ≠ v → g_mi M1 c j = g_mi M c j) → g_mi M1 (t + 2) v = iZ (((v : Int).tdiv d - otF sg vt k v 3) % 3) → g_mi M1 (t + 3) v = iZ (((k : Int) - otF sp vt k v 3) % mm) → R M1) : pX5_settle N K M t (iZ v) (iZ k) c3 90 R := by
  have m30 := hV.1
  have v60 := hV.2.1
  have hv3 : ∀ i, i < 3 → vt k i < 60 := fun i hi => by have := (pii_w hV hk hi).2; omega
  have bs := otF_b (f := sg) (vt := vt) (k := k) (v := v) (B := 3) (fun u hu => (hs u hu).2) hv3
  have bp := otF_b (f := sp) (vt := vt) (k := k) (v := v) (B := 29) (fun u hu => (hp u hu).2) hv3
  have loop : ∀ (e i n : Nat), i + e = 3 → e + 1 ≤ n → qX5_settle N K R n 0 M t (iZ v) (iZ k) c3 90 (iZ (otF sg vt k v i)) (iZ (otF sp vt k v i)) (iZ i) := by
    intro e
    induction e with
    | zero =>
      intro i n hi hn
      obtain ⟨n2, rfl⟩ : ∃ n2, n = n2 + 1 := ⟨n - 1, by omega⟩
      have e3 : i = 3 := by omega
      subst e3
      rw [qX5_settle]
      unfold pX5_settle_9
      have b1 := bs 3 (by omega)
      have b2 := bp 3 (by omega)
      have c1 : ¬ iZ d ≤ 0 := by rw [iZ_l0, iZ_le (by omega) (by omega) (by omega) (by omega)]; omega
      have c2 : ¬ iZ mm ≤ 0 := by rw [iZ_l0, iZ_le (by omega) (by omega) (by omega) (by omega)]; omega
      have c4 : ¬ iZ d = 0 := by rw [iZ_l0, iZ_eq (by omega) (by omega) (by omega) (by omega)]; omega
      have c5 : ¬ iZ mm = 0 := by rw [iZ_l0, iZ_eq (by omega) (by omega) (by omega) (by omega)]; omega
      have tb := tdiv_b (x := (v : Int)) (y := d) (by omega)
      rw [if_pos (by omega)] at tb
      have vv : vp_in (iZ (v : Int)) 60 := iZ_in (by omega) (by omega) (by omega)
      rw [h5, h4]
      refine ⟨fun _ => ⟨fun z => absurd z c1, fun _ => ⟨fun z => absurd z c2, fun _ => ⟨c4, by unfold EJ9_floorMod_7cf53; decide, fun v1 hv1 => ⟨vv, fun M1 h1 => ?_⟩⟩⟩⟩, fun z => absurd (by decide) z⟩
      rw [iZ_div (by omega) (by omega) (by omega) (by omega), iZ_sub, iZ_l3, fm_ok (by omega) (by omega) (by omega) (by omega)] at hv1
      rw [iZ_cl (show v < 2147483648 by omega)] at h1 ⊢
      have e4 : g_mi M1 t 4 = iZ mm := by rw [h1, mi_wi, if_neg (by omega)]; exact h4
      rw [e4]
      refine ⟨by unfold EJ9_floorMod_7cf53; exact c5, fun v2 hv2 => ⟨vv, fun M2 h2 => ?_⟩⟩
      rw [iZ_sub, fm_ok (by omega) (by omega) (by omega) (by omega)] at hv2
      have g : ∀ c j, g_mi M2 c j = if c = t + 3 ∧ j = v then v2 else if c = t + 2 ∧ j = v then v1 else g_mi M c j := fun c j => by rw [h2, mi_wi, h1, mi_wi]
      exact hE M2 (fun c j q => by rw [g, if_neg (by omega), if_neg (by omega)]) (by rw [g, if_neg (by omega), if_pos ⟨rfl, rfl⟩]; exact hv1) (by rw [g, if_pos ⟨rfl, rfl⟩]; exact hv2)
    | succ e ih =>
      intro i n hi hn
      obtain ⟨n2, rfl⟩ : ∃ n2, n = n2 + 1 := ⟨n - 1, by omega⟩
      have hi3 : i < 3 := by omega
      have w := hv3 i hi3
      rw [qX5_settle]
      unfold pX5_settle_9
      have cc : ¬ (3 : Int32) ≤ iZ (i : Int) := by rw [iZ_l3, iZ_le (by omega) (by omega) (by omega) (by omega)]; omega
      have ew : (iZ ((vt k i : Nat) : Int) = iZ (v : Int)) = (vt k i = v) := by rw [iZ_eq (by omega) (by omega) (by omega) (by omega)]; exact propext ⟨fun _ => by omega, fun _ => by omega⟩
      rw [show (3 : Int32) * iZ (k : Int) + iZ (i : Int) = iZ ((3 * k + i : Nat) : Int) by rw [iZ_l3, iZ_mul, iZ_add]; congr 1, iZ_cl (show 3 * k + i < 2147483648 by omega), hP k i hk hi3, ew, iZ_cl (show vt k i < 2147483648 by omega), (hs _ w).1, (hp _ w).1, iZ_add, iZ_add, iZ_s1]
      have k1 := ih (i + 1) n2 (by omega) (by omega)
      rw [otF, otF] at k1
      refine ⟨fun z => absurd z cc, fun _ => ⟨iZ_in (by omega) (by omega) (by omega), fun z => ?_, fun z => ⟨iZ_in (by omega) (by omega) (by omega), ?_⟩⟩⟩
      · rw [if_pos z, if_pos z, Int.add_zero, Int.add_zero] at k1; exact k1
      · rw [if_neg z, if_neg z] at k1; exact k1
  unfold pX5_settle pX5_settle_0
  exact loop 3 0 N (by omega) (by omega)
end SET
