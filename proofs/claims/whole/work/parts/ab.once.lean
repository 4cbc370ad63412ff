/-! Orders: what a clause does; the class tells its words, runs once. -/
abbrev HL := List ((Nat → Int) × Int)
abbrev OSt := (Nat → Int) × HL × Int × Int
def lst (L : HL) : HL := L.drop (L.length - 16)
theorem lst_b {L : HL} : (lst L).length ≤ 16 := by unfold lst; rw [List.length_drop]; omega
theorem lst_s {L : HL} (h : L.length ≤ 16) : lst L = L := by unfold lst; rw [show L.length - 16 = 0 by omega]; rfl
theorem psh_lst {L : HL} {e : (Nat → Int) × Int} : pshH (lst L) e = lst (L ++ [e]) := by
  unfold pshH lst
  rw [List.length_drop, List.length_append, List.length_singleton]
  by_cases c : L.length < 16
  · rw [if_pos (by omega), show L.length - 16 = 0 by omega, show L.length + 1 - 16 = 0 by omega]; rfl
  · rw [if_neg (by omega), List.drop_drop, List.drop_append_of_le_length (by omega), show L.length - 16 + 1 = L.length + 1 - 16 by omega]
theorem lst_lst {H L : HL} : lst (H ++ lst L) = lst (H ++ L) := by
  by_cases c : L.length ≤ 16
  · rw [lst_s c]
  · have e : (lst L).length = 16 := by unfold lst; rw [List.length_drop]; omega
    unfold lst at e ⊢
    have a : (H ++ L.drop (L.length - 16)).drop (H.length + 16 - 16) = L.drop (L.length - 16) := by
      rw [show H.length + 16 - 16 = H.length by omega, List.drop_left]
    have b : (H ++ L).drop (H.length + L.length - 16) = L.drop (L.length - 16) := by
      rw [show H.length + L.length - 16 = H.length + (L.length - 16) by omega, ← List.drop_drop, List.drop_left]
    rw [List.length_append, List.length_append, e, a, b]
def hkO (h : Int) : Nat := (kc h).toNat
theorem hkO_b {h : Int} (hh : hdS true h ∨ hdN true h) : kc h = (hkO h : Int) ∧ hkO h ≤ 4 := by
  unfold hkO
  have : 0 ≤ kc h ∧ kc h ≤ 4 := by
    unfold kc
    simp only [hdS, hdN] at hh
    have : h = 18 ∨ h = 19 ∨ h = 20 ∨ h = 10 ∨ h = 21 := by
      rcases hh with (z | z) | (z | z)
      · exact absurd z.1 (by decide)
      · have := z.2; omega
      · exact absurd z.1 (by decide)
      · have := z.2; omega
    rcases this with z | z | z | z | z <;> subst z <;> decide
  omega
def onO (law : List (Nat × Cl)) (c : Cl) (s : OSt) : Option OSt := if c.2.2.2 (eO s.1 s.2.2.1 s.2.2.2) = some 1 then (match c.2.1 (eO s.1 s.2.2.1 s.2.2.2) with
    | none => none
    | some v => if 0 ≤ (acA law s.1 (hkO c.1) v).1 then some ((acA law s.1 (hkO c.1) v).2, s.2.1 ++ [(s.1, (hkO c.1 : Int))], s.2.2.1 + 1, if hkO c.1 = 4 then (acA law s.1 (hkO c.1) v).1 else s.2.2.2) else none) else some s
def rnO (law : List (Nat × Cl)) (c : Cl) : Nat → OSt → Option OSt
  | 0, s => some s
  | n + 1, s => match onO law c s with
    | none => none
    | some s2 => rnO law c n s2
def orO (law : List (Nat × Cl)) : List (Nat × Cl) → Nat → OSt → Nat ⊕ OSt
  | [], _, s => .inr s
  | c :: cs, i, s => match rnO law c.2 c.2.2.2.1.toNat s with
    | none => .inl i
    | some s2 => orO law cs (i + 1) s2
/-- what is known of a state in orders -/
def VO (r0 : Nat → Int) (n : Int) (s : OSt) : Prop := Vk s.1 ∧ Vt s.1 ∧ (∀ i, 188 ≤ i → s.1 i = r0 i) ∧ 0 ≤ s.2.2.1 ∧ s.2.2.1 ≤ n ∧ -1 ≤ s.2.2.2 ∧ s.2.2.2 ≤ 1000 ∧ ∀ e ∈ s.2.1, (Vk e.1 ∧ Vt e.1 ∧ 0 ≤ e.2 ∧ e.2 ≤ 4) ∧ e.1 200 = r0 200 ∧ e.1 201 = r0 201
section VOS
variable {r0 : Nat → Int} {n : Int} {s s2 : OSt} {law : List (Nat × Cl)} {c : Cl}
theorem VO.le {m : Int} (h : VO r0 n s) (hm : n ≤ m) : VO r0 m s := ⟨h.1, h.2.1, h.2.2.1, h.2.2.2.1, by have := h.2.2.2.2.1; omega, h.2.2.2.2.2⟩
theorem VO.on (h : VO r0 n s) (hc : Clb true c) (e : onO law c s = some s2) : VO r0 (n + 1) s2 := by
  unfold onO at e
  split at e
  · cases hs : c.2.1 (eO s.1 s.2.2.1 s.2.2.2) with
    | none => rw [hs] at e; cases e
    | some v =>
      rw [hs] at e
      dsimp only at e
      split at e
      · rename_i a0
        cases e
        obtain ⟨h1, h2, h3, h4, h5, h6, h7, h8⟩ := h
        have hb := acA_b (cs := law) (kind := hkO c.1) (x := v) h1
        refine ⟨acA_V h1, acA_T h1 h2, fun i hi => (acA_hi h1 hi).trans (h3 i hi), ?_, ?_, ?_, ?_, fun e he => ?_⟩
        · show 0 ≤ s.2.2.1 + 1; omega
        · show s.2.2.1 + 1 ≤ n + 1; omega
        · show -1 ≤ (if hkO c.1 = 4 then (acA law s.1 (hkO c.1) v).1 else s.2.2.2)
          split <;> omega
        · show (if hkO c.1 = 4 then (acA law s.1 (hkO c.1) v).1 else s.2.2.2) ≤ 1000
          split <;> omega
        · have hk := hkO_b hc.1
          rcases List.mem_append.mp he with z | z
          · exact h8 e z
          · rw [List.mem_singleton.mp z]
            exact ⟨⟨h1, h2, by show (0 : Int) ≤ (hkO c.1 : Int); omega, by show (hkO c.1 : Int) ≤ 4; omega⟩, h3 200 (by omega), h3 201 (by omega)⟩
      · cases e
  · cases e
    exact h.le (by omega)
theorem VO.rn (hc : Clb true c) : ∀ (k : Nat) (s : OSt) (n : Int) (s2 : OSt), VO r0 n s → rnO law c k s = some s2 → VO r0 (n + k) s2 := by
  intro k
  induction k with
  | zero => intro s n s2 h e; cases e; exact h.le (by omega)
  | succ k ih =>
    intro s n s2 h e
    rw [rnO] at e
    cases ho : onO law c s with
    | none => rw [ho] at e; cases e
    | some s3 =>
      rw [ho] at e
      exact (ih s3 (n + 1) s2 (h.on hc ho) e).le (by omega)
theorem VO.or : ∀ (cs : List (Nat × Cl)) (i : Nat) (s : OSt) (n : Int) (s2 : OSt), (∀ c ∈ cs, Clb true c.2) → VO r0 n s → orO law cs i s = .inr s2 → VO r0 (n + 20 * cs.length) s2 := by
  intro cs
  induction cs with
  | nil => intro i s n s2 hc h e; cases e; exact h.le (by rw [List.length_nil]; omega)
  | cons c cs ih =>
    intro i s n s2 hc h e
    rw [orO] at e
    cases ho : rnO law c.2 c.2.2.2.1.toNat s with
    | none => rw [ho] at e; cases e
    | some s3 =>
      rw [ho] at e
      have cb := hc c (List.mem_cons_self)
      have h3 := VO.rn cb _ s n s3 h ho
      have := cb.2.2.2.1
      refine (ih (i + 1) s3 _ s2 (fun c hc2 => hc c (List.mem_cons_of_mem _ hc2)) h3 e).le ?_
      rw [List.length_cons]; omega
end VOS
section TO8
variable {N K A : Nat} {r : Nat → Int} {dn lt : Int} {nl : Nat} {ln ld : Nat → Int32}
theorem to_loop {M0 : gM} {R : gM → Prop} (hN : 500 ≤ N) (hV : Vk r) (hT : Vt r) (hS : RS M0 (A + 1 + 1) r) (h4 : g_mi M0 (A + 282) 4 = iZ nl) (hn : nl ≤ 50) (hln : g_mi M0 (A + 282 + 9) = ln) (hld : g_mi M0 (A + 282 + 10) = ld) (hB : ∀ i, i < nl → 0 ≤ (ln i).toInt ∧ (ln i).toInt ≤ 999) (hE : ∀ M1, (∀ c, c ≠ A + 271 + 1 → g_mi M1 c = g_mi M0 c) → (∀ j, j < 10 → g_mi M1 (A + 271 + 1) j = g_mi M0 (A + 271 + 1) j) → (∀ u, u < nl → g_mi M1 (A + 271 + 1) (10 + u) = iZ (eO r dn lt (if ld u = 0 then 17 else 12) (ln u).toInt)) → R M1) : ∀ (d i n : Nat) (M : gM), i + d = nl → d + 1 ≤ n → (∀ c, c ≠ A + 271 + 1 → g_mi M c = g_mi M0 c) → (∀ j, j < 10 → g_mi M (A + 271 + 1) j = g_mi M0 (A + 271 + 1) j) → (∀ u, u < i → g_mi M (A + 271 + 1) (10 + u) = iZ (eO r dn lt (if ld u = 0 then 17 else 12) (ln u).toInt)) → qX8_tellOrders N K R n 0 M A (A + 1 + 1) (A + 271 + 1) 60 (iZ i) := by
  intro d
  induction d with
  | zero =>
    intro i n M hi hn2 f f2 hu
    obtain ⟨m, rfl⟩ : ∃ m, n = m + 1 := ⟨n - 1, by omega⟩
    rw [qX8_tellOrders]
    unfold pX8_tellOrders_52
    have c1 : g_mi M (A + 282) 4 ≤ iZ (i : Int) := by rw [f _ (by omega), h4, iZ_le (by omega) (by omega) (by omega) (by omega)]; omega
    exact ⟨fun _ => hE M f f2 (fun u q => hu u (by omega)), fun z => absurd c1 z⟩
  | succ d ih =>
    intro i n M hi hn2 f f2 hu
    obtain ⟨m, rfl⟩ : ∃ m, n = m + 1 := ⟨n - 1, by omega⟩
    rw [qX8_tellOrders]
    unfold pX8_tellOrders_52
    have c1 : ¬ g_mi M (A + 282) 4 ≤ iZ (i : Int) := by rw [f _ (by omega), h4, iZ_le (by omega) (by omega) (by omega) (by omega)]; omega
    have k := hB i (by omega)
    have S1 : RS M (A + 1 + 1) r := hS.keep (fun c q1 q2 => f c (by omega))
    have go : ∀ M1 : gM, M1 = g_wi M (A + 271 + 1) (10 + i) (iZ (eO r dn lt (if ld i = 0 then 17 else 12) (ln i).toInt)) → qX8_tellOrders N K R m 0 M1 A (A + 1 + 1) (A + 271 + 1) 60 (iZ ((i + 1 : Nat) : Int)) := fun M1 h1 => by
      obtain ⟨a1, a2, a3⟩ := wi_k h1
      refine ih (i + 1) m M1 (by omega) (by omega) (fun c q => (a1 c q).trans (f c q)) (fun j hj => (a2 j (by omega)).trans (f2 j hj)) (fun u q => ?_)
      by_cases e : u = i
      · rw [e, a3]
      · rw [a2 _ (by omega)]; exact hu u (by omega)
    have ad : (10 : Int32) + iZ (i : Int) = iZ ((10 + i : Nat) : Int) := by rw [show (10 : Int32) = iZ ((10 : Nat) : Int) from rfl, iZ_add]; congr 1
    rw [iZ_cl (show i < 2147483648 by omega), f _ (show A + 282 + 10 ≠ A + 271 + 1 by omega), hld, f _ (show A + 282 + 9 ≠ A + 271 + 1 by omega), hln, iZ_s1, ad, iZ_cl (show 10 + i < 2147483648 by omega), show ln i = iZ (ln i).toInt from iZ_to _]
    refine ⟨fun z => absurd z c1, fun _ => ⟨iZ_in (by omega) (by omega) (by omega), fun z => ?_, fun z => ?_⟩⟩
    · refine nu_8 hN hT S1.2.2.2 k.1 k.2 ⟨iZ_in (by omega) (by omega) (by omega), fun M1 h1 => go M1 ?_⟩
      rw [h1, if_pos z]
      have e1 : eO r dn lt 17 (ln i).toInt = nuF r (ln i).toInt := by
        unfold eO fdA
        rw [if_neg (by decide), if_neg (by decide), if_neg (by decide), if_neg (by decide), if_neg (by decide), if_pos rfl]
        by_cases t : r 33 = 0
        · rw [if_pos t]; unfold nuF; rw [if_pos t]
        · rw [if_neg t, if_pos k, if_neg (by decide), if_pos rfl]
      rw [e1]
    · obtain ⟨d1, d2⟩ := dg_8 (N := N) (v := (ln i).toInt) (by omega) hV S1.1 (by omega) (by omega)
      refine ⟨d1, fun v2 hv2 => ⟨iZ_in (by omega) (by omega) (by omega), fun M1 h1 => go M1 ?_⟩⟩
      rw [h1, hv2, d2, if_neg z]
      rfl
theorem to_8 {M : gM} {R : gM → Prop} (hN : 500 ≤ N) (hV : Vk r) (hT : Vt r) (hS : RS M (A + 1 + 1) r) (h4 : g_mi M (A + 282) 4 = iZ nl) (hn : nl ≤ 50) (hln : g_mi M (A + 282 + 9) = ln) (hld : g_mi M (A + 282 + 10) = ld) (hB : ∀ i, i < nl → 0 ≤ (ln i).toInt ∧ (ln i).toInt ≤ 999) (d0 : 0 ≤ dn) (d1 : dn ≤ 1000) (l0 : -1 ≤ lt) (l1 : lt ≤ 1000) (hE : ∀ M1, (∀ c, c ≠ A + 271 + 1 → g_mi M1 c = g_mi M c) → Wo true ln ld nl (g_mi M1 (A + 271 + 1)) (eO r dn lt) → R M1) : pX8_tellOrders N K M A (iZ dn) (iZ lt) R := by
  unfold pX8_tellOrders pX8_tellOrders_0
  intro M1 h1 M2 h2 M3 h3 M4 h4'
  obtain ⟨a1, a2, a3⟩ := wi_k h1
  obtain ⟨b1, b2, b3⟩ := wi_k h2
  obtain ⟨c1, c2, c3⟩ := wi_k h3
  obtain ⟨e1, e2, e3⟩ := wi_k h4'
  have kk : ∀ c, c ≠ A + 271 + 1 → g_mi M4 c = g_mi M c := fun c q => by rw [e1 c q, c1 c q, b1 c q, a1 c q]
  rw [c1 _ (by omega), b1 _ (by omega), a1 _ (by omega), hS.1.1] at e3
  rw [hS.1.2.2.2.2] at a3
  show qX8_tellOrders N K R N 0 M4 A (A + 1 + 1) (A + 271 + 1) 60 (iZ ((0 : Nat) : Int))
  refine to_loop (M0 := M4) (ln := ln) (ld := ld) (dn := dn) (lt := lt) hN hV hT (hS.keep (fun c q1 q2 => kk c (by omega))) (by rw [kk _ (by omega)]; exact h4) hn (by rw [kk _ (by omega)]; exact hln) (by rw [kk _ (by omega)]; exact hld) hB (fun M5 f5 g5 u5 => ?_) nl 0 N M4 (by omega) (by omega) (fun _ _ => rfl) (fun _ _ => rfl) (fun u hu => by omega)
  refine hE M5 (fun c q => (f5 c q).trans (kk c q)) ⟨eO_b hV hT d0 d1 l0 l1, fun z => (by cases z), fun _ => ⟨fun j j1 j2 => ?_, u5⟩⟩
  rw [g5 j j2]
  have : j = 6 ∨ j = 7 ∨ j = 8 ∨ j = 9 := by omega
  rcases this with z | z | z | z <;> subst z
  · rw [e2 _ (by omega), c2 _ (by omega), b2 _ (by omega), a3]; rfl
  · rw [e2 _ (by omega), c2 _ (by omega), b3]; rfl
  · rw [e2 _ (by omega), c3]; rfl
  · rw [e3]; rfl
end TO8
/-- what is changed in the class while orders run -/
def Fo (A : Nat) (M M1 : gM) : Prop := ∀ c, (c < A + 2 ∨ A + 8 < c) → (c < A + 135 ∨ A + 256 < c) → (c < A + 271 ∨ A + 281 < c) → g_mi M1 c = g_mi M c
theorem Fo.rf {A : Nat} {M : gM} : Fo A M M := fun _ _ _ _ => rfl
theorem Fo.tr {A : Nat} {M M1 M2 : gM} (h : Fo A M M1) (h2 : Fo A M1 M2) : Fo A M M2 := fun c q1 q2 q3 => (h2 c q1 q2 q3).trans (h c q1 q2 q3)
/-- the text of orders in the class -/
def OX (M : gM) (A nl : Nat) (ln ld : Nat → Int32) (cs : List (Nat × Cl)) : Prop := Te M (A + 282 + 2) 12 460 (Wo true ln ld nl) cs ∧ g_mi M (A + 282) 4 = iZ nl ∧ nl ≤ 50 ∧ g_mi M (A + 282 + 9) = ln ∧ g_mi M (A + 282 + 10) = ld ∧ ∀ i, i < nl → 0 ≤ (ln i).toInt ∧ (ln i).toInt ≤ 999
theorem OX.keep {M M1 : gM} {A nl : Nat} {ln ld : Nat → Int32} {cs : List (Nat × Cl)} (h : OX M A nl ln ld cs) (k : ∀ c, A + 282 ≤ c → c ≤ A + 292 → g_mi M1 c = g_mi M c) : OX M1 A nl ln ld cs := by
  obtain ⟨h1, h2, h3, h4, h5, h6⟩ := h
  exact ⟨h1.keep (fun c q1 q2 => k c (by omega) (by omega)), by rw [k _ (by omega) (by omega)]; exact h2, h3, by rw [k _ (by omega) (by omega)]; exact h4, by rw [k _ (by omega) (by omega)]; exact h5, h6⟩
theorem FC.fo {M M1 : gM} {A : Nat} {law : List (Nat × Cl)} (h : FC M A (g_mi M (A + 1) 6) law) (hs : Sl M M1) (f : Fo A M M1) : FC M1 A (g_mi M1 (A + 1) 6) law := by
  have e6 : g_mi M1 (A + 1) = g_mi M (A + 1) := f _ (by omega) (by omega) (by omega)
  have fa := h.2.2.1
  rw [e6]
  exact h.keep hs (by rw [e6]) (fun c q1 q2 => f c (by omega) (by omega) (by omega))
section RO8
variable {N K A f nl i : Nat} {r0 : Nat → Int} {n : Int} {s : OSt} {ln ld : Nat → Int32} {law cs : List (Nat × Cl)} {c : Nat × Cl}
theorem ro_8 {M : gM} {R : Int32 → gM → Prop} (hN : 500 ≤ N) (hV : VO r0 n s) (hn : n ≤ 1000) (hm : Vm s.1) (hS : RS M (A + 1 + 1) s.1) (hF : FC M A (g_mi M (A + 1) 6) law) (hH : RHf M (A + 135) f (lst s.2.1)) (hX : OX M A nl ln ld cs) (hi : cs[i]? = some c) (hc : Clb true c.2)
    (hno : c.2.2.2.2 (eO s.1 s.2.2.1 s.2.2.2) ≠ some 1 → ∀ M1, Fo A M M1 → RS M1 (A + 1 + 1) s.1 → RHf M1 (A + 135) f (lst s.2.1) → Sl M M1 → R (-2147483648) M1)
    (hna : c.2.2.2.2 (eO s.1 s.2.2.1 s.2.2.2) = some 1 → c.2.2.1 (eO s.1 s.2.2.1 s.2.2.2) = none → ∀ M1 f1, Fo A M M1 → g_mi M1 (A + 135) 2 = iZ ((f1 : Nat) : Int) → f1 < 17 → Sl M M1 → R (-3) M1)
    (hbd : ∀ v, c.2.2.2.2 (eO s.1 s.2.2.1 s.2.2.2) = some 1 → c.2.2.1 (eO s.1 s.2.2.1 s.2.2.2) = some v → (acA law s.1 (hkO c.2.1) v).1 < 0 → ∀ M1 f1, Fo A M M1 → g_mi M1 (A + 135) 2 = iZ ((f1 : Nat) : Int) → f1 < 17 → Sl M M1 → R (iZ (acA law s.1 (hkO c.2.1) v).1) M1)
    (hok : ∀ v, c.2.2.2.2 (eO s.1 s.2.2.1 s.2.2.2) = some 1 → c.2.2.1 (eO s.1 s.2.2.1 s.2.2.2) = some v → 0 ≤ (acA law s.1 (hkO c.2.1) v).1 → ∀ M1 f1, Fo A M M1 → RS M1 (A + 1 + 1) (acA law s.1 (hkO c.2.1) v).2 → RHf M1 (A + 135) f1 (lst (s.2.1 ++ [(s.1, (hkO c.2.1 : Int))])) → Sl M M1 → R (iZ (acA law s.1 (hkO c.2.1) v).1) M1) : pX8_runOnce N K M A (A + 282 + 2) 12 460 (iZ i) (iZ s.2.2.1) (iZ s.2.2.2) R := by
  obtain ⟨v1, v2, v3, v4, v5, v6, v7, v8⟩ := hV
  have hi12 : i < 12 := by
    obtain ⟨q, _⟩ := List.getElem?_eq_some_iff.mp hi
    have := hX.1.2.1
    omega
  obtain ⟨hk, hk4⟩ := hkO_b hc.1
  unfold pX8_runOnce
  refine to_8 hN v1 v2 hS hX.2.1 hX.2.2.1 hX.2.2.2.1 hX.2.2.2.2.1 hX.2.2.2.2.2 v4 (by omega) v6 v7 (fun M1 k1 w1 sl1 => ?_)
  have f1 : Fo A M M1 := fun c _ _ q => k1 c (by omega)
  have X1 := hX.keep (M1 := M1) (fun c q1 q2 => k1 c (by omega))
  obtain ⟨t1, t2, t3, t4, L, t5, t6, t7⟩ := X1.1
  have ce := t7 i c hi
  rw [iZ_cl (show i < 2147483648 by omega)]
  refine ⟨iZ_in (by omega) (by omega) (by omega), (ce_val (R := _) hN ce t5 t6 t3 w1 (by omega)).2 (fun M2 k2 sl2 => ?_)⟩
  rw [iO_1 hc.2.2.2.2 w1.1]
  have f2 : Fo A M M2 := f1.tr (fun c _ _ q => k2 c (by omega))
  have s2 := Sl.tr sl1 sl2
  refine ⟨fun z => ⟨iZ_in (by omega) (by omega) (by omega), ?_⟩, fun z => hno z M2 f2 (hS.keep (fun c q1 q2 => by rw [k2 c (by omega), k1 c (by omega)])) (hH.keep (fun c q1 q2 => by rw [k2 c (by omega), k1 c (by omega)])) s2⟩
  have X2 := X1.keep (M1 := M2) (fun c q1 q2 => k2 c (by omega))
  obtain ⟨_, _, _, _, L2, u5, u6, u7⟩ := X2.1
  refine (ce_val (R := _) hN (u7 i c hi) u5 u6 t3 (by rw [k2 _ (by omega)]; exact w1) (by omega)).1 (fun M3 k3 sl3 => ?_)
  have f3 : Fo A M M3 := f2.tr (fun c _ _ q => k3 c (by omega))
  have s3 := Sl.tr s2 sl3
  have H3 : RHf M3 (A + 135) f (lst s.2.1) := hH.keep (fun c q1 q2 => by rw [k3 c (by omega), k2 c (by omega), k1 c (by omega)])
  have S3 : RS M3 (A + 1 + 1) s.1 := hS.keep (fun c q1 q2 => by rw [k3 c (by omega), k2 c (by omega), k1 c (by omega)])
  cases hs : c.2.2.1 (eO s.1 s.2.2.1 s.2.2.2) with
  | none => exact ⟨fun y => absurd rfl y, fun _ => hna z hs M3 f f3 H3.2.2.1 H3.1 s3⟩
  | some v =>
    have vb := hc.2.1 _ v w1.1 hs
    refine ⟨fun _ => ?_, fun y => absurd y (iO_ne vb.1 vb.2)⟩
    have lt := Nat.mod_lt (f + (lst s.2.1).length) (show 17 > 0 by omega)
    refine dr_8 H3 v1 v2 S3 (by omega) (fun M4 k4 H4 S4 sl4 => ⟨iZ_in (by omega) (by omega) (by omega), ?_⟩)
    have f4 : Fo A M M4 := f3.tr (fun c _ q _ => k4 c (by omega))
    have s4 := Sl.tr s3 sl4
    have X4 := hX.keep (M1 := M4) (fun c q1 q2 => f4 c (by omega) (by omega) (by omega))
    obtain ⟨_, _, _, _, L4, _, _, y7⟩ := X4.1
    rw [(y7 i c hi).1, hk]
    unfold iO
    dsimp only
    refine ca_8 (cs := law) hN v1 v2 hm (S3.keep (fun c q1 q2 => k4 c (by omega))) (by omega) (by omega) (hF.fo s4 f4) hk4 (by omega) (by omega) (fun M5 k5 S5 sl5 => ?_)
    have ab := acA_b (cs := law) (kind := hkO c.2.1) (x := v) v1
    have f5 : Fo A M M5 := f4.tr (fun c q1 _ q3 => k5 c (by omega) (by omega))
    have s5 := Sl.tr s4 sl5
    have H5 : RHf M5 (A + 135) f (lst s.2.1) := H4.keep (fun c q1 q2 => k5 c (by omega) (by omega))
    rw [iZ_l0, iZ_lt (by omega) (by omega) (by omega) (by omega)]
    refine ⟨fun q => hbd v z hs q M5 f f5 H5.2.2.1 H5.1 s5, fun q => ⟨iZ_in (by omega) (by omega) (by omega), ?_⟩⟩
    have X5 := hX.keep (M1 := M5) (fun c q1 q2 => f5 c (by omega) (by omega) (by omega))
    obtain ⟨_, _, _, _, L5, _, _, z7⟩ := X5.1
    rw [(z7 i c hi).1, hk]
    refine kp_8 H5 (S4.keep (fun c q1 q2 => k5 c (by omega) (by omega))) (fun M6 f6 k6 H6 sl6 => ?_)
    rw [psh_lst] at H6
    exact hok v z hs (by omega) M6 f6 (f5.tr (fun c _ q _ => k6 c (by omega) (by omega))) (S5.keep (fun c q1 q2 => k6 c (by omega) (by omega))) H6 (Sl.tr s5 sl6)
end RO8
