/-! The table: the three entries of a key together (reference). -/
def tgV (r : Nat → Int) (k : Int) (i : Nat) : Nat := (vx k i (r 35) (r 34)).toNat
def tgF (r : Nat → Int) (base : Nat) (k : Int) : Nat → Int
  | 0 => 0
  | i + 1 => tgF r base k i + r (base + tgV r k i)
section TG
variable {N K b : Nat} {r : Nat → Int} {k : Int} {base : Nat}
theorem tg_loop {M : gM} {R : Int32 → Prop} (hR : Rr M b r) (k0 : 0 ≤ k) (k1 : k ≤ 999) (s0 : 0 ≤ r 35) (s1 : r 35 ≤ 255) (d0 : 2 ≤ r 34) (d1 : r 34 ≤ 20) (hb : base ≤ 200) (hE : R (iZ (tgF r base k 3))) : ∀ (e i n : Nat), i + e = 3 → e + 1 ≤ n → qX9_together N K R n 0 M b (iZ k) (iZ base) (iZ (tgF r base k i)) (iZ i) := by
  intro e
  induction e with
  | zero =>
    intro i n hi hn
    obtain ⟨n2, rfl⟩ : ∃ n2, n = n2 + 1 := ⟨n - 1, by omega⟩
    have e3 : i = 3 := by omega
    subst e3
    rw [qX9_together]
    unfold pX9_together_5
    exact ⟨fun _ => hE, fun z => absurd (by decide) z⟩
  | succ e ih =>
    intro i n hi hn
    obtain ⟨n2, rfl⟩ : ∃ n2, n = n2 + 1 := ⟨n - 1, by omega⟩
    rw [qX9_together]
    unfold pX9_together_5
    have c3 : ¬ (3 : Int32) ≤ iZ (i : Int) := by rw [iZ_l3, iZ_le (by omega) (by omega) (by omega) (by omega)]; omega
    have vb := vx_n (k := k) (j := (i : Int)) (s := r 35) (by omega) (by omega) d0 d1
    have vi : vx k i (r 35) (r 34) = ((tgV r k i : Nat) : Int) := by unfold tgV; omega
    rw [hR 35 (by omega), hR 34 (by omega), vx_9 k0 (by omega) (show (0 : Int) ≤ (i : Int) by omega) (by omega) s0 s1 d0 d1, vi]
    refine ⟨fun z => absurd z c3, fun _ => ⟨vx_E9 d0 d1, fun v1 hv1 => ?_⟩⟩
    subst hv1
    rw [iZ_add, ← Int.natCast_add, iZ_cl (show base + tgV r k i < 2147483648 by omega), hR _ (by omega), iZ_add, iZ_s1]
    exact ⟨iZ_in (by omega) (by omega) (by omega), ih (i + 1) n2 (by omega) (by omega)⟩
/-- three entries of a row together -/
theorem tg_ok {M : gM} {R : Int32 → Prop} (hN : 500 ≤ N) (hR : Rr M b r) (k0 : 0 ≤ k) (k1 : k ≤ 999) (s0 : 0 ≤ r 35) (s1 : r 35 ≤ 255) (d0 : 2 ≤ r 34) (d1 : r 34 ≤ 20) (hb : base ≤ 200) (hE : R (iZ (tgF r base k 3))) : pX9_together N K M b (iZ k) (iZ base) R := by
  unfold pX9_together pX9_together_0
  exact tg_loop hR k0 k1 s0 s1 d0 d1 hb hE 3 0 N (by omega) (by omega)
end TG
