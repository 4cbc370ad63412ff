/-! Peeling, without memory: keys left, degrees, the core. -/
def xrS (p : Nat → Bool) : Nat → Int32
  | 0 => 0
  | n + 1 => if p n = true then xrS p n ^^^ iZ n else xrS p n
def smS (p : Nat → Bool) : Nat → Nat
  | 0 => 0
  | n + 1 => smS p n + (if p n = true then n else 0)
theorem xs_congr {p q : Nat → Bool} {n : Nat} (h : ∀ i, i < n → p i = q i) : xrS p n = xrS q n ∧ smS p n = smS q n := by
  induction n with
  | zero => exact ⟨rfl, rfl⟩
  | succ n ih =>
    have := ih (fun i hi => h i (by omega))
    rw [xrS, xrS, smS, smS, h n (by omega), this.1, this.2]
    exact ⟨rfl, rfl⟩
theorem xs_none {p : Nat → Bool} {n : Nat} (h : ∀ i, i < n → p i = false) : xrS p n = 0 ∧ smS p n = 0 := by
  induction n with
  | zero => exact ⟨rfl, rfl⟩
  | succ n ih =>
    have := ih (fun i hi => h i (by omega))
    rw [xrS, smS, h n (by omega), if_neg (by decide), if_neg (by decide), this.1, this.2]
    exact ⟨rfl, rfl⟩
theorem xor_sw (x y z : Int32) : (x ^^^ y) ^^^ z = (x ^^^ z) ^^^ y := by rw [Int32.xor_assoc, Int32.xor_comm y z, ← Int32.xor_assoc]
theorem xor_2 (x y : Int32) : (x ^^^ y) ^^^ y = x := by rw [Int32.xor_assoc, Int32.xor_self, Int32.xor_zero]
/-- one taken out -/
theorem xs_drop {p q : Nat → Bool} {n i : Nat} (hi : i < n) (hp : p i = true) (hq : q i = false) (h : ∀ j, j < n → j ≠ i → q j = p j) : xrS q n = xrS p n ^^^ iZ i ∧ smS q n + i = smS p n := by
  induction n with
  | zero => omega
  | succ n ih =>
    rw [xrS, xrS, smS, smS]
    rcases Nat.lt_or_ge i n with z | z
    · have := ih z (fun j hj hn => h j (by omega) hn)
      rw [h n (by omega) (by omega), this.1]
      refine ⟨?_, by omega⟩
      split
      · rw [xor_sw]
      · rfl
    · have e : i = n := by omega
      subst e
      have c := xs_congr (p := q) (q := p) (n := i) (fun j hj => h j (by omega) (by omega))
      rw [hp, hq, if_neg (by decide), if_pos rfl, if_neg (by decide), if_pos rfl, c.1, c.2, xor_2]
      exact ⟨rfl, rfl⟩
/-- the only one -/
theorem xs_one {p : Nat → Bool} {n : Nat} (h : cnt p n = 1) : ∃ k, k < n ∧ p k = true ∧ xrS p n = iZ k ∧ smS p n = k ∧ ∀ j, j < n → p j = true → j = k := by
  obtain ⟨k, hk, hp⟩ := cnt_ex (p := p) (n := n) (by omega)
  have hd := cnt_drop (p := p) (q := fun j => p j && decide (j ≠ k)) hk hp (by simp) (fun j _ hn => by simp [hn])
  have z := cnt_zero (p := fun j => p j && decide (j ≠ k)) (n := n) (by omega)
  have x := xs_drop (p := p) (q := fun j => p j && decide (j ≠ k)) hk hp (by simp) (fun j _ hn => by simp [hn])
  have x0 := xs_none z
  refine ⟨k, hk, hp, ?_, by omega, fun j hj hpj => ?_⟩
  · have e := x.1
    rw [x0.1] at e
    have : (0 : Int32) ^^^ iZ k = (xrS p n ^^^ iZ k) ^^^ iZ k := by rw [e]
    rw [xor_2, Int32.zero_xor] at this
    exact this.symm
  · have := z j hj
    rcases Nat.lt_or_ge j k with q | q
    · simp [hpj, show ¬ j = k by omega] at this
    · rcases Nat.lt_or_ge k j with q2 | q2
      · simp [hpj, show ¬ j = k by omega] at this
      · omega
/-- key number k touches vertex v -/
def ic (vt : Nat → Nat → Nat) (k v : Nat) : Bool := decide (vt k 0 = v) || decide (vt k 1 = v) || decide (vt k 2 = v)
/-- three vertices of each key, all others -/
def Vd (vt : Nat → Nat → Nat) (m V : Nat) : Prop := m ≤ 30 ∧ V ≤ 60 ∧ ∀ k, k < m → vt k 0 < V ∧ vt k 1 < V ∧ vt k 2 < V ∧ vt k 0 ≠ vt k 1 ∧ vt k 0 ≠ vt k 2 ∧ vt k 1 ≠ vt k 2
def rmv (S : Nat → Bool) (k : Nat) : Nat → Bool := fun j => S j && decide (j ≠ k)
def pS (vt : Nat → Nat → Nat) (S : Nat → Bool) (v : Nat) : Nat → Bool := fun j => S j && ic vt j v
def dgS (vt : Nat → Nat → Nat) (m : Nat) (S : Nat → Bool) (v : Nat) : Nat := cnt (pS vt S v) m
section PEEL
variable {vt : Nat → Nat → Nat} {m V : Nat} {S : Nat → Bool} {k v : Nat}
theorem rmv_k : rmv S k k = false := by unfold rmv; simp
theorem rmv_n {j : Nat} (h : j ≠ k) : rmv S k j = S j := by unfold rmv; simp [h]
/-- a key let go: its vertices lose it -/
theorem dg_rm (hk : k < m) (hS : S k = true) (hi : ic vt k v = true) : dgS vt m (rmv S k) v + 1 = dgS vt m S v ∧ xrS (pS vt (rmv S k) v) m = xrS (pS vt S v) m ^^^ iZ k ∧ smS (pS vt (rmv S k) v) m + k = smS (pS vt S v) m := by
  have a1 : pS vt S v k = true := by unfold pS; rw [hS, hi]; rfl
  have a2 : pS vt (rmv S k) v k = false := by unfold pS; rw [rmv_k]; rfl
  have a3 : ∀ j, j < m → j ≠ k → pS vt (rmv S k) v j = pS vt S v j := fun j _ hj => by unfold pS; rw [rmv_n hj]
  have x := xs_drop hk a1 a2 a3
  exact ⟨(cnt_drop hk a1 a2 a3).symm, x.1, x.2⟩
theorem dg_rn (hi : ic vt k v = false) : dgS vt m (rmv S k) v = dgS vt m S v ∧ xrS (pS vt (rmv S k) v) m = xrS (pS vt S v) m ∧ smS (pS vt (rmv S k) v) m = smS (pS vt S v) m := by
  have a3 : ∀ j, j < m → pS vt (rmv S k) v j = pS vt S v j := fun j _ => by
    unfold pS
    by_cases c : j = k
    · rw [c, hi, Bool.and_false, Bool.and_false]
    · rw [rmv_n c]
  have x := xs_congr a3
  exact ⟨cnt_congr a3, x.1, x.2⟩
/-- a free vertex tells its key -/
theorem dg_one (h : dgS vt m S v = 1) : ∃ k, k < m ∧ S k = true ∧ ic vt k v = true ∧ xrS (pS vt S v) m = iZ k ∧ smS (pS vt S v) m = k ∧ ∀ j, j < m → S j = true → ic vt j v = true → j = k := by
  obtain ⟨k, h1, h2, h3, h4, h5⟩ := xs_one h
  unfold pS at h2
  rw [Bool.and_eq_true] at h2
  exact ⟨k, h1, h2.1, h2.2, h3, h4, fun j hj hs hi => h5 j hj (by unfold pS; rw [hs, hi]; rfl)⟩
/-- sets without a free vertex stay -/
def Cld (vt : Nat → Nat → Nat) (m : Nat) (C : Nat → Bool) : Prop := ∀ v, dgS vt m C v ≠ 1
def Sbs (m : Nat) (C S : Nat → Bool) : Prop := ∀ k, k < m → C k = true → S k = true
theorem cl_keep {C : Nat → Bool} (hC : Cld vt m C) (hs : Sbs m C S) (h1 : dgS vt m S v = 1) (hk : k < m) (hi : ic vt k v = true) : Sbs m C (rmv S k) := by
  intro j hj hc
  by_cases e : j = k
  · exfalso
    subst e
    have a1 : 0 < dgS vt m C v := cnt_pos hk (by unfold pS; rw [hc, hi]; rfl)
    have a2 : dgS vt m C v ≤ dgS vt m S v := cnt_mono (fun i hi2 hp => by
      unfold pS at hp ⊢
      rw [Bool.and_eq_true] at hp ⊢
      exact ⟨hs i hi2 hp.1, hp.2⟩)
    exact hC v (by omega)
  · rw [rmv_n e]; exact hs j hj hc
/-- a state of peeling from S0: all closed sets are in it; keys let go have had vertices of their own -/
def acS (vt : Nat → Nat → Nat) (m V : Nat) (S : Nat → Bool) : Nat := cnt (fun v => decide (1 ≤ dgS vt m S v)) V
def Run (vt : Nat → Nat → Nat) (m V : Nat) (S : Nat → Bool) : Prop := (∀ C, Cld vt m C → Sbs m C (fun _ => true) → Sbs m C S) ∧ acS vt m V S + m ≤ V + cnt S m
theorem cnt_all {n : Nat} : cnt (fun _ => true) n = n := cnt_pre (Nat.le_refl _) (fun j hj => ⟨fun _ => hj, fun _ => rfl⟩)
theorem Run.start : Run vt m V (fun _ => true) := by
  refine ⟨fun C _ h => h, ?_⟩
  rw [cnt_all]
  have := cnt_le (fun v => decide (1 ≤ dgS vt m (fun _ => true) v)) V
  unfold acS
  omega
theorem Run.step (h : Run vt m V S) (h1 : dgS vt m S v = 1) (hv : v < V) (hk : k < m) (hS : S k = true) (hi : ic vt k v = true) : Run vt m V (rmv S k) ∧ cnt (rmv S k) m + 1 = cnt S m := by
  have c1 : cnt S m = cnt (rmv S k) m + 1 := cnt_drop hk hS rmv_k (fun j _ hj => rmv_n hj)
  refine ⟨⟨fun C hC hs => cl_keep hC (h.1 C hC hs) h1 hk hi, ?_⟩, c1.symm⟩
  have h2 := h.2
  have d0 : dgS vt m (rmv S k) v = 0 := by have := (dg_rm (v := v) hk hS hi).1; omega
  have le : ∀ u, dgS vt m (rmv S k) u ≤ dgS vt m S u := fun u => by
    cases c : ic vt k u with
    | true => have := (dg_rm (v := u) hk hS c).1; omega
    | false => have := (dg_rn (m := m) (S := S) c).1; omega
  have a1 : acS vt m V (rmv S k) + 1 ≤ acS vt m V S := by
    have e : cnt (fun u => decide (1 ≤ dgS vt m S u)) V = cnt (fun u => decide (1 ≤ dgS vt m S u) && decide (u ≠ v)) V + 1 := cnt_drop hv (by simp; omega) (by simp) (fun j _ hj => by simp [hj])
    have e2 : cnt (fun u => decide (1 ≤ dgS vt m (rmv S k) u)) V ≤ cnt (fun u => decide (1 ≤ dgS vt m S u) && decide (u ≠ v)) V := cnt_mono (fun u _ hu => by
      have hu2 := of_decide_eq_true hu
      have lu := le u
      rw [Bool.and_eq_true]
      refine ⟨decide_eq_true (by omega), decide_eq_true (fun z => ?_)⟩
      rw [z, d0] at hu2; omega)
    unfold acS
    omega
  omega
/-- where no vertex is free, the core is reached, and it is one -/
theorem Run.core {S2 : Nat → Bool} (h : Run vt m V S) (h2 : Run vt m V S2) (c : Cld vt m S) (c2 : Cld vt m S2) : cnt S m = cnt S2 m := by
  have s1 := h.1 S2 c2 (fun _ _ _ => rfl)
  have s2 := h2.1 S c (fun _ _ _ => rfl)
  exact Nat.le_antisymm (cnt_mono s2) (cnt_mono s1)
theorem Run.some (h : Run vt m V S) (hm : V < m) : 0 < cnt S m := by
  have := h.2
  omega
theorem Vd.far (hV : Vd vt m V) (h : V ≤ v) : dgS vt m S v = 0 := by
  refine cnt_none (fun j hj => ?_)
  have := hV.2.2 j hj
  unfold pS ic
  simp [show ¬ vt j 0 = v by omega, show ¬ vt j 1 = v by omega, show ¬ vt j 2 = v by omega]
theorem Vd.cld (hV : Vd vt m V) (h : ∀ v, v < V → dgS vt m S v ≠ 1) : Cld vt m S := fun v => by
  rcases Nat.lt_or_ge v V with z | z
  · exact h v z
  · rw [hV.far z]; decide
/-- the first free vertex of least rank -/
def nfr (f : Nat → Bool) (rk : Nat → Int) : Nat → Nat → Option Nat → Option Nat
  | 0, _, b => b
  | n + 1, u, b => nfr f rk n (u + 1) (if f u = true then (match b with
    | none => some u
    | some w => if rk w ≤ rk u then some w else some u) else b)
end PEEL
