/-! Calls: ask. -/
def hnF (r : Nat → Int) (v : Int) (n : Nat) : Nat := cnt (fun j => soK r j && hv (r (1 + j)) v (r 32) (r 31)) n
def mxF (a n : Int) : Int := if n < a - n then a - n else n
def asF (r : Nat → Int) (b0 l0 : Int) : Nat → Int × Int
  | 0 => (b0, l0)
  | v + 1 => if mxF (PLs r (r 0).toNat).length (hnF r v (r 0).toNat) < (asF r b0 l0 v).2 then ((v : Int), mxF (PLs r (r 0).toNat).length (hnF r v (r 0).toNat)) else asF r b0 l0 v
def asA (r : Nat → Int) (x : Int) : Int := if (PLs r (r 0).toNat).length = 0 then -1 else if 0 ≤ x ∧ x ≤ 1 then (if x = 0 then (asF r (-1) 1000000 (3 * r 31).toNat).1 else (asF r (-1) 1000000 (3 * r 31).toNat).2) else -1
theorem PLs_cnt {r : Nat → Int} : ∀ n, (PLs r n).length = cnt (soK r) n := by
  intro n
  induction n with
  | zero => rfl
  | succ n ih =>
    rw [PLs, cnt]
    by_cases c : soK r n = true
    · rw [if_pos c, if_pos c, List.length_append, ih]; rfl
    · rw [if_neg c, if_neg c, ih]; rfl
theorem hnF_le {r : Nat → Int} {v : Int} {n : Nat} : hnF r v n ≤ (PLs r n).length := by
  rw [PLs_cnt]
  exact cnt_mono (fun i _ h => by
    simp only [Bool.and_eq_true] at h
    exact h.1)
theorem mxF_b {a n : Int} (h0 : 0 ≤ n) (h1 : n ≤ a) : 0 ≤ mxF a n ∧ mxF a n ≤ a := by
  unfold mxF
  split <;> omega
theorem asF_b {r : Nat → Int} {b0 l0 : Int} (v30 : (PLs r (r 0).toNat).length ≤ 30) (h0 : 31 ≤ l0) : ∀ v : Nat, 1 ≤ v → 0 ≤ (asF r b0 l0 v).1 ∧ (asF r b0 l0 v).1 < v ∧ 0 ≤ (asF r b0 l0 v).2 ∧ (asF r b0 l0 v).2 ≤ 30 := by
  intro v
  induction v with
  | zero => intro h; omega
  | succ v ih =>
    intro _
    have hl := hnF_le (r := r) (v := (v : Int)) (n := (r 0).toNat)
    have mb := mxF_b (a := ((PLs r (r 0).toNat).length : Int)) (n := (hnF r v (r 0).toNat : Int)) (by omega) (by omega)
    rw [asF]
    split
    · dsimp only; omega
    · rename_i c
      cases v with
      | zero =>
        have : (asF r b0 l0 0).2 = l0 := rfl
        omega
      | succ v =>
        have := ih (by omega)
        omega
theorem asF_e {r : Nat → Int} (v30 : (PLs r (r 0).toNat).length ≤ 30) : ∀ v : Nat, 1 ≤ v → asF r 0 31 v = asF r (-1) 1000000 v := by
  intro v
  induction v with
  | zero => intro h; omega
  | succ v ih =>
    intro _
    have hl := hnF_le (r := r) (v := (v : Int)) (n := (r 0).toNat)
    have mb := mxF_b (a := ((PLs r (r 0).toNat).length : Int)) (n := (hnF r v (r 0).toNat : Int)) (by omega) (by omega)
    rw [asF, asF]
    cases v with
    | zero =>
      have e1 : (asF r 0 31 0).2 = 31 := rfl
      have e2 : (asF r (-1) 1000000 0).2 = 1000000 := rfl
      rw [e1, e2, if_pos (by omega), if_pos (by omega)]
    | succ v => rw [ih (by omega)]
theorem PLs_mem {r : Nat → Int} (hV : Vk r) : ∀ n : Nat, (n : Int) ≤ r 0 → ∀ x ∈ PLs r n, 0 ≤ x ∧ x ≤ 999 := by
  intro n
  induction n with
  | zero => intro _ x hx; cases hx
  | succ n ih =>
    intro hn x hx
    rw [PLs] at hx
    split at hx
    · rcases List.mem_append.mp hx with z | z
      · exact ih (by omega) x z
      · rw [List.mem_singleton.mp z]; exact hV.2.2.1 n (by omega)
    · exact ih (by omega) x hx
/-- how many of the first i that can be have the vertex -/
def hcF (r : Nat → Int) (L : List Int) (v : Int) (i : Nat) : Nat := cnt (fun i => hv ((L[i]?).getD 0) v (r 32) (r 31)) i
theorem hcF_hn {r : Nat → Int} {v : Int} : ∀ n, hcF r (PLs r n) v (PLs r n).length = hnF r v n := by
  intro n
  induction n with
  | zero => rfl
  | succ n ih =>
    unfold hnF
    rw [PLs, cnt]
    by_cases c : soK r n = true
    · rw [if_pos c, List.length_append, show [r (1 + n)].length = 1 from rfl]
      unfold hcF
      rw [cnt]
      have e1 : cnt (fun i => hv (((PLs r n ++ [r (1 + n)])[i]?).getD 0) v (r 32) (r 31)) (PLs r n).length = hnF r v n := by
        rw [← ih]
        exact cnt_congr (fun i hi => by rw [List.getElem?_append_left hi])
      rw [e1, List.getElem?_append_right (Nat.le_refl _), Nat.sub_self, c]
      rfl
    · have c2 : soK r n = false := by cases h : soK r n with | false => rfl | true => exact absurd h c
      rw [if_neg c, ih, c2]
      rfl
section ASK8
variable {N K A : Nat} {r : Nat → Int}
theorem mx_8 {a n : Int} (h0 : 0 ≤ n) (h1 : n ≤ a) (h2 : a ≤ 30) : i_max (iZ n) (iZ a - iZ n) = iZ (mxF a n) := by
  rw [iZ_sub, iZ_max (by omega) (by omega) (by omega) (by omega)]
  rfl
theorem mx_9 {a n : Int} (h0 : 0 ≤ n) (h1 : n ≤ a) (h2 : a ≤ 30) : fX9_greater (iZ n) (iZ a - iZ n) = iZ (mxF a n) := by
  unfold fX9_greater mxF
  rw [iZ_sub]
  by_cases c : n ≤ a - n
  · rw [if_pos (by rw [iZ_le (by omega) (by omega) (by omega) (by omega)]; exact c)]
    by_cases c2 : n < a - n
    · rw [if_pos c2]
    · rw [if_neg c2, show a - n = n by omega]
  · rw [if_neg (by rw [iZ_le (by omega) (by omega) (by omega) (by omega)]; exact c), if_neg (by omega)]
theorem as_in {M : gM} {R : Int32 → gM → Prop} {x2 x4 x5 : Int32} {x1 : Int32} {v : Nat} {L : List Int} (hV : Vk r) (hR : Rk M (A + 1 + 1) r) (hP : Pos M A L) (hm : ∀ x ∈ L, 0 ≤ x ∧ x ≤ 999) (l30 : L.length ≤ 30) (hx2 : x2 = iZ L.length) (hv60 : v < 60) : ∀ (e i n : Nat), i + e = L.length → e + 1 ≤ n → (∀ n1, n ≤ n1 + e + 1 → ((x5 ≤ (i_max (iZ (hcF r L v L.length)) (x2 - iZ (hcF r L v L.length))) → qX8_ask N K R n1 0 M A x1 x2 (A + 1 + 1) x4 x5 (iZ v + 1) 0 0) ∧ (¬ x5 ≤ (i_max (iZ (hcF r L v L.length)) (x2 - iZ (hcF r L v L.length))) → qX8_ask N K R n1 0 M A x1 x2 (A + 1 + 1) (iZ v) (i_max (iZ (hcF r L v L.length)) (x2 - iZ (hcF r L v L.length))) (iZ v + 1) 0 0))) → qX8_ask N K R n 1 M A x1 x2 (A + 1 + 1) x4 x5 (iZ v) (iZ (hcF r L v i)) (iZ i) := by
  have d0 := hV.2.2.2.2.1
  have d1 := hV.2.2.2.2.2.1
  subst hx2
  intro e
  induction e with
  | zero =>
    intro i n hi hn hE
    obtain ⟨n2, rfl⟩ : ∃ n2, n = n2 + 1 := ⟨n - 1, by omega⟩
    rw [qX8_ask, if_neg (by decide)]
    unfold pX8_ask_55
    have c1 : iZ (L.length : Int) ≤ iZ (i : Int) := by rw [iZ_le (by omega) (by omega) (by omega) (by omega)]; omega
    rw [show i = L.length by omega] at c1 ⊢
    exact ⟨fun _ => hE n2 (by omega), fun z => absurd c1 z⟩
  | succ e ih =>
    intro i n hi hn hE
    obtain ⟨n2, rfl⟩ : ∃ n2, n = n2 + 1 := ⟨n - 1, by omega⟩
    rw [qX8_ask, if_neg (by decide)]
    unfold pX8_ask_55
    have c1 : ¬ iZ (L.length : Int) ≤ iZ (i : Int) := by rw [iZ_le (by omega) (by omega) (by omega) (by omega)]; omega
    have hl : i < L.length := by omega
    have hg := List.getElem?_eq_getElem hl
    have kb := hm _ (List.getElem_mem hl)
    have cl : hcF r L v i ≤ i := cnt_le _ _
    rw [iZ_cl (show i < 2147483648 by omega), hP i _ hg]
    obtain ⟨q1, q2⟩ := keyHas_8 (k := L[i]) (v := (v : Int)) hV hR kb.1 kb.2 (by omega) (by omega)
    rw [hvr d0 d1] at q2
    refine ⟨fun z => absurd z c1, fun _ => ⟨iZ_in (by omega) (by omega) (by omega), q1, fun v1 hv1 => ?_⟩⟩
    rw [q2] at hv1
    subst hv1
    rw [iB_0, iZ_s1 i, iZ_s1 (hcF r L v i)]
    have nx := ih (i + 1) n2 (by omega) (by omega) (fun n1 h1 => hE n1 (by omega))
    unfold hcF at nx ⊢
    rw [cnt, hg] at nx
    refine ⟨fun z => ?_, fun z => ?_⟩
    · rw [if_neg (by rw [Option.getD_some, z]; decide)] at nx; exact nx
    · have z2 : hv L[i] v (r 32) (r 31) = true := by cases h : hv L[i] v (r 32) (r 31) with | true => rfl | false => exact absurd h z
      rw [if_pos (by rw [Option.getD_some]; exact z2)] at nx; exact nx
theorem as_8 {M : gM} {R : Int32 → gM → Prop} {x : Int} (hN : 4000 ≤ N) (vr : Vr r) (hR : Rk M (A + 1 + 1) r) (hS : Sn8 M (A + 1) r) (x1 : -2147483648 ≤ x) (x2 : x < 2147483648) (hE : ∀ M1, (∀ c, c ≠ A + 305 → g_mi M1 c = g_mi M c) → R (iZ (asA r x)) M1) : pX8_ask N K M A (iZ x) R := by
  have hV := vr.k
  have v0 := hV.1
  have v30 := hV.2.1
  have d0 := hV.2.2.2.2.1
  have d1 := hV.2.2.2.2.2.1
  have pl := PLs_len (r := r) (r 0).toNat
  unfold asA at hE
  unfold pX8_ask pX8_ask_0
  refine cl_8 (by omega) vr hR hS (fun M1 f1 P1 => ?_)
  have hE1 := hE M1 f1
  rw [show (iZ ((PLs r (r 0).toNat).length : Int) = 0) = ((PLs r (r 0).toNat).length = 0) by rw [iZ_l0, iZ_eq (by omega) (by omega) (by omega) (by omega)]; exact propext ⟨fun _ => by omega, fun _ => by omega⟩, iZ_l0, iZ_lt (by omega) (by omega) (by omega) (by omega), iZ_l1, iZ_le (by omega) (by omega) (by omega) (by omega)]
  refine ⟨fun z => ?_, fun z => ⟨fun z2 => ?_, fun z2 => ⟨fun z3 => ?_, fun z3 => ?_⟩⟩⟩
  · rw [if_pos z] at hE1; exact hE1
  · rw [if_neg z, if_neg (by omega)] at hE1; exact hE1
  · rw [if_neg z, if_pos (by omega)] at hE1
    have R1 : Rk M1 (A + 1 + 1) r := by
      unfold Rk
      rw [f1 _ (by omega), f1 _ (by omega), f1 _ (by omega)]; exact hR
    have mb := PLs_mem hV (r 0).toNat (by omega)
    have loop : ∀ (e v n : Nat), v + e = (3 * r 31).toNat → 40 * e + 1 ≤ n → qX8_ask N K R n 0 M1 A (iZ x) (iZ (PLs r (r 0).toNat).length) (A + 1 + 1) (iZ (asF r 0 31 v).1) (iZ (asF r 0 31 v).2) (iZ v) 0 0 := by
      intro e
      induction e with
      | zero =>
        intro v n hv hn
        obtain ⟨n2, rfl⟩ : ∃ n2, n = n2 + 1 := ⟨n - 1, by omega⟩
        rw [qX8_ask, if_pos rfl]
        unfold pX8_ask_38
        have c1 : (3 : Int32) * g_mi M1 (A + 1 + 1) 4 ≤ iZ (v : Int) := by rw [R1.2.2.1, iZ_l3, iZ_mul, iZ_le (by omega) (by omega) (by omega) (by omega)]; omega
        rw [show (3 * r 31).toNat = v by omega, ← asF_e (by omega) v (by omega)] at hE1
        rw [show (iZ x = 0) = (x = 0) by rw [iZ_l0, iZ_eq (by omega) (by omega) (by omega) (by omega)]]
        refine ⟨fun _ => ⟨fun w => ?_, fun w => ?_⟩, fun w => absurd c1 w⟩
        · rw [if_neg w] at hE1; exact hE1
        · rw [if_pos w] at hE1; exact hE1
      | succ e ih =>
        intro v n hv hn
        obtain ⟨n2, rfl⟩ : ∃ n2, n = n2 + 1 := ⟨n - 1, by omega⟩
        rw [qX8_ask, if_pos rfl]
        unfold pX8_ask_38
        have c1 : ¬ (3 : Int32) * g_mi M1 (A + 1 + 1) 4 ≤ iZ (v : Int) := by rw [R1.2.2.1, iZ_l3, iZ_mul, iZ_le (by omega) (by omega) (by omega) (by omega)]; omega
        refine ⟨fun w => absurd w c1, fun _ => ?_⟩
        refine as_in hV R1 P1 mb (by omega) rfl (by omega) (PLs r (r 0).toNat).length 0 n2 (by omega) (by omega) (fun n1 h1 => ?_)
        have hl := hnF_le (r := r) (v := (v : Int)) (n := (r 0).toNat)
        have bb : 0 ≤ (asF r 0 31 v).2 ∧ (asF r 0 31 v).2 ≤ 31 := by
          cases v with
          | zero => exact ⟨by show (0 : Int) ≤ 31; omega, by show (31 : Int) ≤ 31; omega⟩
          | succ v => have := asF_b (r := r) (b0 := 0) (l0 := 31) (by omega) (by omega) (v + 1) (by omega); omega
        have mb2 := mxF_b (a := ((PLs r (r 0).toNat).length : Int)) (n := (hnF r v (r 0).toNat : Int)) (by omega) (by omega)
        rw [hcF_hn, mx_8 (by omega) (by omega) (by omega), iZ_le (by omega) (by omega) (by omega) (by omega), iZ_s1]
        have nx := ih (v + 1) n1 (by omega) (by omega)
        rw [asF] at nx
        refine ⟨fun w => ?_, fun w => ?_⟩
        · rw [if_neg (by omega)] at nx; exact nx
        · rw [if_pos (by omega)] at nx; exact nx
    exact loop (3 * r 31).toNat 0 N (by omega) (by omega)
  · rw [if_neg z, if_neg (by omega)] at hE1; exact hE1
end ASK8
section ASK9
variable {N K b : Nat} {r : Nat → Int} {M : gM}
theorem as_9i {R : Int32 → Prop} {x1 x2 x3 x4 : Int32} {v : Nat} (hN : 500 ≤ N) (vr : Vr r) (hR : Rr M b r) (hv60 : v < 60) : ∀ (e j n : Nat), j + e = (r 0).toNat → e + 1 ≤ n → (∀ n1, n ≤ n1 + e + 1 → ∀ v1 : Int32, v1 = (fX9_greater (iZ (hnF r v (r 0).toNat)) (x2 - iZ (hnF r v (r 0).toNat))) → ((v1 < x4 → qX9_ask N K R n1 0 M b x1 x2 (iZ v) v1 (iZ v + 1) 0 0) ∧ (¬ v1 < x4 → qX9_ask N K R n1 0 M b x1 x2 x3 x4 (iZ v + 1) 0 0))) → qX9_ask N K R n 1 M b x1 x2 x3 x4 (iZ v) (iZ (hnF r v j)) (iZ j) := by
  have hV := vr.k
  have v0 := hV.1
  have v30 := hV.2.1
  intro e
  induction e with
  | zero =>
    intro j n hj hn hE
    obtain ⟨n2, rfl⟩ : ∃ n2, n = n2 + 1 := ⟨n - 1, by omega⟩
    rw [qX9_ask, if_neg (by decide)]
    unfold pX9_ask_45
    have c1 : g_mi M (b + 2) 0 ≤ iZ (j : Int) := by rw [hR 0 (by omega), iZ_le (by omega) (by omega) (by omega) (by omega)]; omega
    rw [show (r 0).toNat = j by omega] at hE
    exact ⟨fun _ => hE n2 (by omega), fun z => absurd c1 z⟩
  | succ e ih =>
    intro j n hj hn hE
    obtain ⟨n2, rfl⟩ : ∃ n2, n = n2 + 1 := ⟨n - 1, by omega⟩
    rw [qX9_ask, if_neg (by decide)]
    unfold pX9_ask_45
    have c1 : ¬ g_mi M (b + 2) 0 ≤ iZ (j : Int) := by rw [hR 0 (by omega), iZ_le (by omega) (by omega) (by omega) (by omega)]; omega
    have kb := hV.2.2.1 j (by omega)
    obtain ⟨k1, k2⟩ := ka_9 (i := j) hR (by omega)
    have nx := ih (j + 1) n2 (by omega) (by omega) (fun n1 h1 => hE n1 (by omega))
    unfold hnF at nx
    rw [cnt] at nx
    have z0 : iZ (hnF r v j : Int) + 0 = iZ (hnF r v j : Int) := by rw [iZ_l0, iZ_add, Int.add_zero]
    rw [k2, iZ_s1 j, iZ_s1 (hnF r v j), z0]
    refine ⟨fun z => absurd z c1, fun _ => ⟨k1, fun v2 hv2 => ?_⟩⟩
    subst hv2
    refine is_9 hN vr hR kb.1 kb.2 ?_
    show (iB (soK r j) = 0 → _) ∧ (¬ iB (soK r j) = 0 → _)
    rw [iB_0]
    refine ⟨fun z => ?_, fun z v4 hv4 => ?_⟩
    · rw [z, if_neg (by simp)] at nx; exact nx
    · have z2 : soK r j = true := by cases h : soK r j with | true => rfl | false => exact absurd h z
      rw [z2] at nx
      subst hv4
      refine hs_9 hN hV hR kb.1 kb.2 (by omega) (by omega) ?_
      rw [iB_0]
      refine ⟨fun y => ?_, fun y => ?_⟩
      · rw [y, if_neg (by decide)] at nx; exact nx
      · have y2 : hv (r (1 + j)) v (r 32) (r 31) = true := by cases h : hv (r (1 + j)) v (r 32) (r 31) with | true => rfl | false => exact absurd h y
        rw [y2, if_pos (show (true && true) = true from rfl)] at nx; exact nx
theorem ask_9 {R : Int32 → Prop} {x : Int} (hN : 4000 ≤ N) (vr : Vr r) (hR : Rr M b r) (x1 : -2147483648 ≤ x) (x2 : x < 2147483648) (hE : R (iZ (asA r x))) : pX9_ask N K M b (iZ x) R := by
  have hV := vr.k
  have v0 := hV.1
  have v30 := hV.2.1
  have d0 := hV.2.2.2.2.1
  have d1 := hV.2.2.2.2.2.1
  have pl := PLs_len (r := r) (r 0).toNat
  unfold asA at hE
  unfold pX9_ask pX9_ask_0
  intro v1 hv1
  rw [iZ_l1, lo3 x1 x2 (by omega) (by omega)] at hv1
  subst hv1
  rw [iB_0, decide_eq_false_iff_not]
  refine ⟨fun z => ?_, fun z => ?_⟩
  · have z2 := Classical.not_not.mp z
    rw [if_pos z2] at hE
    rw [iZ_n1]
    refine cb_9 (by omega) vr hR (by omega) (by omega) ?_
    have ec : cbA r (-1) = ((PLs r (r 0).toNat).length : Int) := by unfold cbA; rw [if_pos rfl]
    rw [ec, iZ_l1000000]
    have loop : ∀ (e v n : Nat), v + e = (3 * r 31).toNat → 40 * e + 1 ≤ n → ((PLs r (r 0).toNat).length = 0 → v = 0) → qX9_ask N K R n 0 M b (iZ x) (iZ (PLs r (r 0).toNat).length) (iZ (asF r (-1) 1000000 v).1) (iZ (asF r (-1) 1000000 v).2) (iZ v) 0 0 := by
      intro e
      induction e with
      | zero =>
        intro v n hv hn hz
        obtain ⟨n2, rfl⟩ : ∃ n2, n = n2 + 1 := ⟨n - 1, by omega⟩
        rw [qX9_ask, if_pos rfl]
        unfold pX9_ask_26
        intro v1 hv1
        unfold fX9_vertexMany at hv1
        rw [hR 31 (by omega), iZ_l3, iZ_mul] at hv1
        subst hv1
        have c1 : iZ (3 * r 31) ≤ iZ (v : Int) := by rw [iZ_le (by omega) (by omega) (by omega) (by omega)]; omega
        have bb := asF_b (r := r) (b0 := -1) (l0 := 1000000) (by omega) (by omega) v (by omega)
        rw [if_neg (by omega), show (3 * r 31).toNat = v by omega] at hE
        have c2 : ¬ iZ (asF r (-1) 1000000 v).1 = -1 := by rw [iZ_n1, iZ_eq (by omega) (by omega) (by omega) (by omega)]; omega
        rw [show (iZ x = 0) = (x = 0) by rw [iZ_l0, iZ_eq (by omega) (by omega) (by omega) (by omega)]]
        refine ⟨fun _ => ⟨fun w => absurd w c2, fun _ => ⟨fun w => ?_, fun w => ?_⟩⟩, fun w => absurd c1 w⟩
        · rw [if_neg w] at hE; exact hE
        · rw [if_pos w] at hE; exact hE
      | succ e ih =>
        intro v n hv hn hz
        obtain ⟨n2, rfl⟩ : ∃ n2, n = n2 + 1 := ⟨n - 1, by omega⟩
        rw [qX9_ask, if_pos rfl]
        unfold pX9_ask_26
        intro v1 hv1
        unfold fX9_vertexMany at hv1
        rw [hR 31 (by omega), iZ_l3, iZ_mul] at hv1
        subst hv1
        have c1 : ¬ iZ (3 * r 31) ≤ iZ (v : Int) := by rw [iZ_le (by omega) (by omega) (by omega) (by omega)]; omega
        have c3 : (iZ ((PLs r (r 0).toNat).length : Int) ≤ 0) = ((PLs r (r 0).toNat).length = 0) := by rw [iZ_l0, iZ_le (by omega) (by omega) (by omega) (by omega)]; exact propext ⟨fun _ => by omega, fun _ => by omega⟩
        rw [c3]
        refine ⟨fun w => absurd w c1, fun _ => ⟨fun w => ?_, fun w => ?_⟩⟩
        · have v00 := hz w
          subst v00
          rw [if_pos w] at hE
          refine ⟨fun _ => hE, fun q => absurd ?_ q⟩
          exact iZ_n1.symm
        · refine as_9i (by omega) vr hR (by omega) (r 0).toNat 0 n2 (by omega) (by omega) (fun n1 h1 v1 hv1 => ?_)
          have hl := hnF_le (r := r) (v := (v : Int)) (n := (r 0).toNat)
          have bb : 0 ≤ (asF r (-1) 1000000 v).2 ∧ (asF r (-1) 1000000 v).2 ≤ 1000000 := by
            cases v with
            | zero => exact ⟨by show (0 : Int) ≤ 1000000; omega, by show (1000000 : Int) ≤ 1000000; omega⟩
            | succ v => have := asF_b (r := r) (b0 := -1) (l0 := 1000000) (by omega) (by omega) (v + 1) (by omega); omega
          have mb2 := mxF_b (a := ((PLs r (r 0).toNat).length : Int)) (n := (hnF r v (r 0).toNat : Int)) (by omega) (by omega)
          rw [mx_9 (by omega) (by omega) (by omega)] at hv1
          subst hv1
          rw [iZ_lt (by omega) (by omega) (by omega) (by omega), iZ_s1]
          have nx := ih (v + 1) n1 (by omega) (by omega) (fun h => absurd h w)
          rw [asF] at nx
          refine ⟨fun y => ?_, fun y => ?_⟩
          · rw [if_pos y] at nx; exact nx
          · rw [if_neg y] at nx; exact nx
    exact loop (3 * r 31).toNat 0 N (by omega) (by omega) (fun _ => rfl)
  · rw [if_neg z] at hE
    rw [iZ_n1]
    split at hE <;> exact hE
end ASK9
section OBA
variable {X : gX} {A : Nat} {x1 : Int32}
theorem ob_ask : Ob X 1311 0 0 kX8_ask kX9_ask (INV A) A (A + 329) [.int x1] := by
  obtain ⟨x, rfl, b1, b2⟩ := i32x x1
  refine ob_q (P8 := fun M R => pX8_ask 20000 1290 M A (iZ x) R) (P9 := fun M R => pX9_ask 20000 1290 M (A + 329) (iZ x) (fun v => R v M)) (fun M R Q s hh hR => uX8_ask (d := 1307) s hh (fun v M1 j h => hR v M1 j.l h)) (fun M R Q s hh hR => uX9_ask (d := 1306) s hh (fun v h => hR v M ⟨rfl, rfl, rfl⟩ h)) (fun r lw H im ilw bt ln fr dr ms hp => ⟨iZ (asA r x), fun M hc R hR => ?_, fun M hr R hR => ?_⟩)
  · exact as_8 (by omega) hp.1 hc.rs.1 hc.sn b1 b2 (fun M1 f1 => hR M1 (F305 f1))
  · exact ask_9 (by omega) hp.1 hr.2.1 b1 b2 (hR M Q9.rf)
end OBA
