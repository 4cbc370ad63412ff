/-! The core's size: the class's queue. -/
def IsCore (vt : Nat → Nat → Nat) (m V c : Nat) : Prop := ∃ S, Run vt m V S ∧ Cld vt m S ∧ c = cnt S m
theorem IsCore.one {vt : Nat → Nat → Nat} {m V c c2 : Nat} (h : IsCore vt m V c) (h2 : IsCore vt m V c2) : c = c2 := by
  obtain ⟨S, a1, a2, a3⟩ := h
  obtain ⟨S2, b1, b2, b3⟩ := h2
  rw [a3, b3]; exact a1.core b1 a2 b2
/-- a queue: vertices, each once -/
def Qn (Q : List Nat) : Prop := (∀ x ∈ Q, x < 60) ∧ cnt (fun v => decide (v ∈ Q)) 60 = Q.length
theorem Qn.len {Q : List Nat} (h : Qn Q) : Q.length ≤ 60 := by rw [← h.2]; exact cnt_le _ _
theorem Qn.add {Q : List Nat} {w : Nat} (h : Qn Q) (hw : w < 60) (hn : w ∉ Q) : Qn (Q ++ [w]) := by
  refine ⟨fun x hx => ?_, ?_⟩
  · rcases List.mem_append.mp hx with z | z
    · exact h.1 x z
    · rw [List.mem_singleton.mp z]; exact hw
  · have := cnt_drop (p := fun v => decide (v ∈ Q ++ [w])) (q := fun v => decide (v ∈ Q)) hw (by simp) (by simp [hn]) (fun j _ hj => by simp [hj])
    rw [this, h.2, List.length_append]; rfl
theorem Qn.adds : ∀ {l Q : List Nat}, Qn Q → (∀ x ∈ l, x < 60 ∧ x ∉ Q) → l.Nodup → Qn (Q ++ l) := by
  intro l
  induction l with
  | nil => intro Q h _ _; rw [List.append_nil]; exact h
  | cons x l ih =>
    intro Q h h1 h2
    rw [show Q ++ x :: l = (Q ++ [x]) ++ l by simp]
    have hx := h1 x (by simp)
    have nd := List.nodup_cons.mp h2
    refine ih (h.add hx.1 hx.2) (fun y hy => ?_) nd.2
    have hy1 := h1 y (by simp [hy])
    refine ⟨hy1.1, fun z => ?_⟩
    rcases List.mem_append.mp z with q | q
    · exact hy1.2 q
    · rw [List.mem_singleton.mp q] at hy; exact nd.1 hy
def Ql (M : gM) (a : Nat) (Q : List Nat) : Prop := ∀ j x, Q[j]? = some x → g_mi M (a + 7) j = iZ ((x : Nat) : Int)
def Fk (a : Nat) (M M1 : gM) : Prop := ∀ c, c ≠ a + 1 → c ≠ a + 4 → c ≠ a + 5 → c ≠ a + 7 → g_mi M1 c = g_mi M c
section CCORE
variable {N K a : Nat} {vt : Nat → Nat → Nat} {m V : Nat}
theorem Fk.tr {M M1 M2 : gM} (h : Fk a M M1) (h2 : Fk a M1 M2) : Fk a M M2 := fun c q1 q2 q3 q4 => (h2 c q1 q2 q3 q4).trans (h c q1 q2 q3 q4)
theorem nw_R {S : Nat → Bool} {k : Nat} (hV : Vd vt m V) (hk : k < m) : (nwS vt m S k 3).Nodup ∧ ∀ x, x ∈ nwS vt m S k 3 ↔ (ic vt k x = true ∧ dgS vt m (rmv S k) x = 1) := by
  have h := hV.2.2 k hk
  have e : (List.range 3).map (vt k) = [vt k 0, vt k 1, vt k 2] := rfl
  unfold nwS
  rw [e]
  refine ⟨List.Pairwise.filter _ (by simp; omega), fun x => ?_⟩
  rw [List.mem_filter]
  unfold ic
  simp
  omega
theorem cq_loop {M0 : gM} {R : Int32 → gM → Prop} (hN : 500 ≤ N) (hV : Vd vt m V) (hE : ∀ M1 c, Fk a M0 M1 → IsCore vt m V c → R (iZ c) M1) : ∀ (e qi n : Nat) (M : gM) (S : Nat → Bool) (Q : List Nat), qi + e = 60 → e + 1 ≤ n → Fk a M0 M → Pv M (a + 1) vt m → Pd M a vt m S → Run vt m V S → Qn Q → Ql M a Q → qi ≤ Q.length → (∀ x ∈ Q, x < V ∧ dgS vt m S x ≤ 1) → (∀ v, dgS vt m S v = 1 → ∃ j, qi ≤ j ∧ Q[j]? = some v) → qX1_coreSize N K R n 1 M a 0 0 (iZ Q.length) (iZ ((cnt S m : Nat) : Int)) (iZ qi) := by
  have m30 := hV.1
  have v60 := hV.2.1
  intro e
  induction e with
  | zero =>
    intro qi n M S Q hq hn f hP hD hU hQ hL hql h1 h2
    obtain ⟨n2, rfl⟩ : ∃ n2, n = n2 + 1 := ⟨n - 1, by omega⟩
    have ql := hQ.len
    rw [qX1_coreSize, if_neg (by decide)]
    unfold pX1_coreSize_66
    have c1 : iZ (Q.length : Int) ≤ iZ (qi : Int) := by rw [iZ_le (by omega) (by omega) (by omega) (by omega)]; omega
    refine ⟨fun _ => hE M _ f ⟨S, hU, fun v hv => ?_, rfl⟩, fun z => absurd c1 z⟩
    obtain ⟨j, j1, j2⟩ := h2 v hv
    rw [List.getElem?_eq_none (by omega)] at j2; cases j2
  | succ e ih =>
    intro qi n M S Q hq hn f hP hD hU hQ hL hql h1 h2
    obtain ⟨n2, rfl⟩ : ∃ n2, n = n2 + 1 := ⟨n - 1, by omega⟩
    have ql := hQ.len
    have sm := cnt_le S m
    rw [qX1_coreSize, if_neg (by decide)]
    unfold pX1_coreSize_66
    have cc : (iZ (Q.length : Int) ≤ iZ (qi : Int)) = (Q.length ≤ qi) := by rw [iZ_le (by omega) (by omega) (by omega) (by omega)]; exact propext ⟨fun _ => by omega, fun _ => by omega⟩
    have c60 : ¬ (60 : Int32) ≤ iZ (qi : Int) := by rw [iZ_l60, iZ_le (by omega) (by omega) (by omega) (by omega)]; omega
    rw [cc]
    refine ⟨fun z => hE M _ f ⟨S, hU, fun v hv => ?_, rfl⟩, fun z => ⟨fun y => absurd y c60, fun _ => ?_⟩⟩
    · obtain ⟨j, j1, j2⟩ := h2 v hv
      rw [List.getElem?_eq_none (by omega)] at j2; cases j2
    have hlt : qi < Q.length := by omega
    have ew : Q[qi]? = some Q[qi] := List.getElem?_eq_getElem hlt
    have wq := hL qi _ ew
    have wm := h1 _ (List.getElem_mem hlt)
    generalize hw : Q[qi] = w at *
    have dle : dgS vt m S w ≤ m := cnt_le _ _
    have eq1 : (iZ ((dgS vt m S w : Nat) : Int) = 1) = (dgS vt m S w = 1) := by
      rw [iZ_l1, iZ_eq (by omega) (by omega) (by omega) (by omega)]; exact propext ⟨fun _ => by omega, fun _ => by omega⟩
    rw [iZ_cl (show qi < 2147483648 by omega), wq, iZ_cl (show w < 2147483648 by omega), (hD w (by omega)).1, eq1, iZ_s1]
    refine ⟨iZ_in (by omega) (by omega) (by omega), iZ_in (by omega) (by omega) (by omega), fun y => ?_, fun y => ?_⟩
    · refine ih (qi + 1) n2 M S Q (by omega) (by omega) f hP hD hU hQ hL (by omega) h1 (fun v hv => ?_)
      obtain ⟨j, j1, j2⟩ := h2 v hv
      refine ⟨j, ?_, j2⟩
      rcases Nat.lt_or_ge qi j with q | q
      · exact q
      · rw [show j = qi by omega, ew] at j2
        cases j2
        exact absurd hv y
    · obtain ⟨k, k1, k2, k3, k4, _, k6⟩ := dg_one y
      obtain ⟨U1, U2⟩ := hU.step y wm.1 k1 k2 k3
      obtain ⟨nd, nm⟩ := nw_R (S := S) hV k1
      rw [(hD w (by omega)).2, k4]
      refine lg_ok hN hV k1 k2 (by omega) hP hD (fun M1 f1 D1 Q1 => ?_)
      have f01 : Fk a M0 M1 := fun c q1 q2 q3 q4 => (f1 c q2 q3 q4).trans (f c q1 q2 q3 q4)
      have le : ∀ u, dgS vt m (rmv S k) u ≤ dgS vt m S u := fun u => by
        cases c : ic vt k u with
        | true => have := (dg_rm (v := u) k1 k2 c).1; omega
        | false => have := (dg_rn (m := m) (S := S) c).1; omega
      have nq : Qn (Q ++ nwS vt m S k 3) := by
        refine hQ.adds (fun x hx => ?_) nd
        obtain ⟨x1, x2⟩ := (nm x).mp hx
        have x3 := (dg_rm (v := x) k1 k2 x1).1
        refine ⟨?_, fun z2 => ?_⟩
        · rcases Nat.lt_or_ge x V with q | q
          · omega
          · rw [hV.far q] at x2; cases x2
        · have := (h1 x z2).2; omega
      have nl := nq.len
      have := ih (qi + 1) n2 M1 (rmv S k) (Q ++ nwS vt m S k 3) (by omega) (by omega) f01 (fun k2 i2 q1 q2 => by rw [f1 _ (by omega) (by omega) (by omega)]; exact hP k2 i2 q1 q2) D1 U1 nq (fun j x hx => ?_) (by rw [List.length_append]; omega) (fun x hx => ?_) (fun v hv => ?_)
      · rw [List.length_append] at this
        rw [show iZ ((cnt S m : Nat) : Int) + -1 = iZ ((cnt (rmv S k) m : Nat) : Int) by rw [iZ_n1, iZ_add]; congr 1; omega]
        exact this
      · rcases Nat.lt_or_ge j Q.length with q | q
        · rw [List.getElem?_append_left q] at hx
          rw [Q1.1 j q]; exact hL j x hx
        · rw [List.getElem?_append_right q] at hx
          have := Q1.2 _ _ hx
          rw [show Q.length + (j - Q.length) = j by omega] at this
          exact this
      · rcases List.mem_append.mp hx with q | q
        · have := h1 x q
          have := le x
          omega
        · obtain ⟨x1, x2⟩ := (nm x).mp q
          refine ⟨?_, by omega⟩
          rcases Nat.lt_or_ge x V with q | q
          · exact q
          · rw [hV.far q] at x2; cases x2
      · cases c : ic vt k v with
        | false =>
          have e1 := (dg_rn (m := m) (S := S) c).1
          obtain ⟨j, j1, j2⟩ := h2 v (by omega)
          have jl : j < Q.length := by
            rcases Nat.lt_or_ge j Q.length with q | q
            · exact q
            · rw [List.getElem?_eq_none q] at j2; cases j2
          refine ⟨j, ?_, by rw [List.getElem?_append_left jl]; exact j2⟩
          rcases Nat.lt_or_ge qi j with q | q
          · exact q
          · rw [show j = qi by omega, ew] at j2
            cases j2
            rw [k3] at c; cases c
        | true =>
          have vm := (nm v).mpr ⟨c, hv⟩
          obtain ⟨j, j1, j2⟩ := List.getElem_of_mem vm
          refine ⟨Q.length + j, by omega, ?_⟩
          rw [List.getElem?_append_right (by omega), show Q.length + j - Q.length = j by omega, List.getElem?_eq_getElem j1, j2]
/-- the first free vertices -/
theorem cf_loop {M0 : gM} {R : Int32 → gM → Prop} {st : Nat} {side : Int} (hN : 500 ≤ N) (hV : Vd vt m V) (hsd : (V : Int) = 3 * side) (s2 : side ≤ 20) (ds : st < a ∨ a + 7 < st) (h3 : g_mi M0 st 3 = iZ m) (hE : ∀ M1 c, Fk a M0 M1 → IsCore vt m V c → R (iZ c) M1) : ∀ (e u n : Nat) (M : gM) (Q : List Nat), u + e = V → e + 101 ≤ n → Fk a M0 M → Pv M (a + 1) vt m → Pd M a vt m (fun _ => true) → Qn Q → Ql M a Q → (∀ x, x ∈ Q ↔ (x < u ∧ dgS vt m (fun _ => true) x = 1)) → qX1_coreSize N K R n 0 M a st (iZ side) (iZ Q.length) (iZ u) 0 := by
  have m30 := hV.1
  have v60 := hV.2.1
  have fin : ∀ (n : Nat) (M : gM) (Q : List Nat), 100 ≤ n → Fk a M0 M → Pv M (a + 1) vt m → Pd M a vt m (fun _ => true) → Qn Q → Ql M a Q → (∀ x, x ∈ Q ↔ (x < V ∧ dgS vt m (fun _ => true) x = 1)) → qX1_coreSize N K R n 1 M a 0 0 (iZ Q.length) (g_mi M st 3) 0 := fun n M Q hn f hP hD hQ hL hm => by
    rw [f st (by omega) (by omega) (by omega) (by omega), h3]
    have := cq_loop (K := K) hN hV hE 60 0 n M (fun _ => true) Q (by omega) (by omega) f hP hD Run.start hQ hL (by omega) (fun x hx => by have := (hm x).mp hx; omega) (fun v hv => ?_)
    · rw [cnt_all] at this; exact this
    · have vV : v < V := by
        rcases Nat.lt_or_ge v V with q | q
        · exact q
        · rw [hV.far q] at hv; cases hv
      obtain ⟨j, j1, j2⟩ := List.getElem_of_mem ((hm v).mpr ⟨vV, hv⟩)
      exact ⟨j, by omega, by rw [List.getElem?_eq_getElem j1, j2]⟩
  intro e
  induction e with
  | zero =>
    intro u n M Q hu hn f hP hD hQ hL hm
    obtain ⟨n2, rfl⟩ : ∃ n2, n = n2 + 1 := ⟨n - 1, by omega⟩
    have ql := hQ.len
    rw [qX1_coreSize, if_pos rfl]
    unfold pX1_coreSize_13
    have c1 : (3 : Int32) * iZ side ≤ iZ (u : Int) := by rw [iZ_l3, iZ_mul, iZ_le (by omega) (by omega) (by omega) (by omega)]; omega
    have eu : u = V := by omega
    exact ⟨fun _ => fin n2 M Q (by omega) f hP hD hQ hL (by rw [← eu]; exact hm), fun z => absurd c1 z⟩
  | succ e ih =>
    intro u n M Q hu hn f hP hD hQ hL hm
    obtain ⟨n2, rfl⟩ : ∃ n2, n = n2 + 1 := ⟨n - 1, by omega⟩
    have ql := hQ.len
    rw [qX1_coreSize, if_pos rfl]
    unfold pX1_coreSize_13
    have c1 : ¬ (3 : Int32) * iZ side ≤ iZ (u : Int) := by rw [iZ_l3, iZ_mul, iZ_le (by omega) (by omega) (by omega) (by omega)]; omega
    have c60 : ¬ (60 : Int32) ≤ iZ (u : Int) := by rw [iZ_l60, iZ_le (by omega) (by omega) (by omega) (by omega)]; omega
    have dle : dgS vt m (fun _ => true) u ≤ m := cnt_le _ _
    have eq1 : (iZ ((dgS vt m (fun _ => true) u : Nat) : Int) = 1) = (dgS vt m (fun _ => true) u = 1) := by
      rw [iZ_l1, iZ_eq (by omega) (by omega) (by omega) (by omega)]; exact propext ⟨fun _ => by omega, fun _ => by omega⟩
    rw [iZ_cl (show u < 2147483648 by omega), (hD u (by omega)).1, eq1, iZ_cl (show Q.length < 2147483648 by omega), iZ_s1, iZ_s1]
    refine ⟨fun z => absurd z c1, fun _ => ⟨fun z => absurd z c60, fun _ => ⟨iZ_in (by omega) (by omega) (by omega), fun y => ?_, fun y => ⟨iZ_in (by omega) (by omega) (by omega), fun M1 h1 => ?_⟩⟩⟩⟩
    · refine ih (u + 1) n2 M Q (by omega) (by omega) f hP hD hQ hL (fun x => ?_)
      rw [hm x]
      refine ⟨fun q => ⟨by omega, q.2⟩, fun q => ⟨?_, q.2⟩⟩
      rcases Nat.lt_or_ge x u with z | z
      · exact z
      · rw [show x = u by omega] at q; exact absurd q.2 y
    · have k1 : ∀ c j, (c ≠ a + 7 ∨ j ≠ Q.length) → g_mi M1 c j = g_mi M c j := fun c j hc => by rw [h1, mi_wi, if_neg (by omega)]
      have f1 : Fk a M0 M1 := fun c q1 q2 q3 q4 => by
        have : g_mi M1 c = g_mi M c := by funext j; exact k1 c j (Or.inl q4)
        rw [this]; exact f c q1 q2 q3 q4
      have := ih (u + 1) n2 M1 (Q ++ [u]) (by omega) (by omega) f1 (fun k2 i2 q1 q2 => by rw [k1 _ _ (by omega)]; exact hP k2 i2 q1 q2) (fun v hv => by rw [k1 _ _ (by omega), k1 _ _ (by omega)]; exact hD v hv) (hQ.add (by omega) (fun z => by have := (hm u).mp z; omega)) (fun j x hx => ?_) (fun x => ?_)
      · rw [List.length_append] at this; exact this
      · rcases Nat.lt_or_ge j Q.length with q | q
        · rw [List.getElem?_append_left q] at hx
          rw [k1 _ _ (by omega)]; exact hL j x hx
        · rw [List.getElem?_append_right q] at hx
          have e0 : j = Q.length := by
            rcases Nat.lt_or_ge (j - Q.length) 1 with p | p
            · omega
            · rw [List.getElem?_eq_none (by simp; omega)] at hx; cases hx
          rw [e0, Nat.sub_self] at hx
          cases hx
          rw [e0, h1, mi_wi, if_pos ⟨rfl, rfl⟩]
      · rw [List.mem_append, hm x, List.mem_singleton]
        refine ⟨fun q => ?_, fun q => ?_⟩
        · rcases q with q | q
          · exact ⟨by omega, q.2⟩
          · rw [q]; exact ⟨by omega, y⟩
        · rcases Nat.lt_or_ge x u with z | z
          · exact Or.inl ⟨z, q.2⟩
          · exact Or.inr (by omega)
end CCORE
section CCORE2
variable {N K a st : Nat} {r : Nat → Int} {s d : Int}
theorem cs_core {M : gM} {R : Int32 → gM → Prop} (hN : 500 ≤ N) (hV : Vk r) (hR : Rk M st r) (s0 : 0 ≤ s) (s1 : s ≤ 255) (d0 : 2 ≤ d) (d1 : d ≤ 20) (ds : st + 2 < a ∨ a + 7 < st) (hE : ∀ M1 c, Fk a M M1 → IsCore (vtR r s d) (r 0).toNat (3 * d).toNat c → R (iZ c) M1) : pX1_coreSize N K M a st (iZ s) (iZ d) R := by
  have m1 := hV.1
  have hVd := vtR_V (s := s) hV d0 d1
  unfold pX1_coreSize pX1_coreSize_0
  refine lay_ok hN hV hR s0 s1 d0 d1 (by omega) (fun M1 f1 P1 D1 => ?_)
  have h3 : g_mi M1 st 3 = iZ (((r 0).toNat : Nat) : Int) := by
    rw [f1 st (by omega) (by omega) (by omega), hR.1]
    congr 1; omega
  refine cf_loop (M0 := M1) hN hVd (by omega) d1 (by omega) h3 (fun M2 c f2 i2 => hE M2 c (fun c q1 q2 q3 q4 => (f2 c q1 q2 q3 q4).trans (f1 c q1 q2 q3)) i2) (3 * d).toNat 0 N M1 [] (by omega) (by omega) (fun _ _ _ _ _ => rfl) P1 D1 ⟨fun x hx => (by cases hx), ?_⟩ (fun j x hx => (by cases hx)) (fun x => ⟨fun hx => (by cases hx), fun hx => by omega⟩)
  exact cnt_none (fun i _ => by simp)
/-- whether none is left -/
theorem cs_none {M : gM} {R : Int32 → gM → Prop} (hN : 500 ≤ N) (hV : Vk r) (hR : Rk M st r) (s0 : 0 ≤ s) (s1 : s ≤ 255) (d0 : 2 ≤ d) (d1 : d ≤ 20) (ds : st + 2 < a ∨ a + 7 < st) (hE : ∀ M1 v, Fk a M M1 → (∀ c, IsCore (vtR r s d) (r 0).toNat (3 * d).toNat c → v = iB (decide (c = 0))) → R v M1) : pX1_leavesNone N K M a st (iZ s) (iZ d) R := by
  have m1 := hV.1
  have m2 := hV.2.1
  unfold pX1_leavesNone
  have cc : ((3 : Int32) * iZ d < g_mi M st 3) = (3 * d < r 0) := by rw [hR.1, iZ_l3, iZ_mul, iZ_lt (by omega) (by omega) (by omega) (by omega)]
  rw [cc]
  refine ⟨fun z => hE M 0 (fun _ _ _ _ _ => rfl) (fun c hc => ?_), fun _ => cs_core hN hV hR s0 s1 d0 d1 ds (fun M1 c f1 hc => ?_)⟩
  · obtain ⟨S, b1, b2, b3⟩ := hc
    have := b1.some (by omega)
    rw [decide_eq_false (by omega)]; rfl
  · have cle : c ≤ 30 := by
      obtain ⟨S, b1, b2, b3⟩ := hc
      have := cnt_le S (r 0).toNat
      omega
    have e0 : (iZ (c : Int) = 0) = (c = 0) := by rw [iZ_l0, iZ_eq (by omega) (by omega) (by omega) (by omega)]; exact propext ⟨fun _ => by omega, fun _ => by omega⟩
    rw [e0]
    refine ⟨fun z => hE M1 0 f1 (fun c2 h2 => ?_), fun z => hE M1 1 f1 (fun c2 h2 => ?_)⟩
    · rw [← hc.one h2, decide_eq_false z]; rfl
    · rw [← hc.one h2, decide_eq_true z]; rfl
end CCORE2
