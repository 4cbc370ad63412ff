/-! Peeling: the class lets a key go, finds a free vertex. -/
/-- all of S, less the first i vertices of key k -/
def Pg (M : gM) (a : Nat) (vt : Nat → Nat → Nat) (m : Nat) (S : Nat → Bool) (k i : Nat) : Prop := ∀ v, v < 60 → g_mi M (a + 4) v = iZ ((dgS vt m S v : Int) - (if pii vt k i v = true then 1 else 0)) ∧ g_mi M (a + 5) v = if pii vt k i v = true then xrS (pS vt S v) m ^^^ iZ k else xrS (pS vt S v) m
/-- the vertices that come free when k goes -/
def nwS (vt : Nat → Nat → Nat) (m : Nat) (S : Nat → Bool) (k i : Nat) : List Nat := ((List.range i).map (vt k)).filter (fun w => decide (dgS vt m (rmv S k) w = 1))
def Fg (a : Nat) (M M1 : gM) : Prop := ∀ c, c ≠ a + 4 → c ≠ a + 5 → c ≠ a + 7 → g_mi M1 c = g_mi M c
/-- the queue has l more -/
def Qq (M M1 : gM) (a ql : Nat) (l : List Nat) : Prop := (∀ j, j < ql → g_mi M1 (a + 7) j = g_mi M (a + 7) j) ∧ ∀ j x, l[j]? = some x → g_mi M1 (a + 7) (ql + j) = iZ ((x : Nat) : Int)
section CLET
variable {N K a : Nat} {vt : Nat → Nat → Nat} {m V : Nat} {S : Nat → Bool} {k ql : Nat}
theorem Fg.tr {M M1 M2 : gM} (h : Fg a M M1) (h2 : Fg a M1 M2) : Fg a M M2 := fun c q1 q2 q3 => (h2 c q1 q2 q3).trans (h c q1 q2 q3)
theorem Pg.st {M : gM} (h : Pd M a vt m S) : Pg M a vt m S k 0 := fun v hv => by
  have := h v hv
  rw [pii_0, if_neg (by decide), if_neg (by decide), Int.sub_zero]
  exact this
theorem Pg.en {M : gM} (hk : k < m) (hS : S k = true) (h : Pg M a vt m S k 3) : Pd M a vt m (rmv S k) := fun v hv => by
  have := h v hv
  rw [pii_3] at this
  rw [this.1, this.2]
  cases c : ic vt k v with
  | true =>
    have x := dg_rm (v := v) hk hS c
    rw [if_pos rfl, if_pos rfl, x.2.1]
    refine ⟨?_, rfl⟩
    congr 1
    omega
  | false =>
    have x := dg_rn (m := m) (S := S) c
    rw [if_neg (by decide), if_neg (by decide), x.2.1, x.1, Int.sub_zero]
    exact ⟨rfl, rfl⟩
theorem nwS_s {i : Nat} : nwS vt m S k (i + 1) = nwS vt m S k i ++ (if dgS vt m (rmv S k) (vt k i) = 1 then [vt k i] else []) := by
  unfold nwS
  rw [List.range_succ, List.map_append, List.filter_append]
  congr 1
  by_cases c : dgS vt m (rmv S k) (vt k i) = 1
  · rw [if_pos c]; simp [c]
  · rw [if_neg c]; simp [c]
theorem nwS_l {i : Nat} : (nwS vt m S k i).length ≤ i := by
  unfold nwS
  exact Nat.le_trans (List.length_filter_le _ _) (by simp)
theorem Qq.ext {M M1 M2 : gM} {l : List Nat} {x : Nat} (h : Qq M M1 a ql l) (hx : g_mi M2 (a + 7) (ql + l.length) = iZ ((x : Nat) : Int)) (hk : ∀ j, j ≠ ql + l.length → g_mi M2 (a + 7) j = g_mi M1 (a + 7) j) : Qq M M2 a ql (l ++ [x]) := by
  refine ⟨fun j hj => by rw [hk j (by omega)]; exact h.1 j hj, fun j y hy => ?_⟩
  rcases Nat.lt_or_ge j l.length with z | z
  · rw [List.getElem?_append_left z] at hy
    rw [hk _ (by omega)]; exact h.2 j y hy
  · rw [List.getElem?_append_right z] at hy
    have e : j - l.length = 0 := by
      rcases Nat.lt_or_ge (j - l.length) 1 with q | q
      · omega
      · rw [List.getElem?_eq_none (by simp; omega)] at hy; cases hy
    rw [e] at hy
    cases hy
    rw [show j = l.length by omega]; exact hx
theorem lg_loop {M0 : gM} {R : Int32 → gM → Prop} (hV : Vd vt m V) (hk : k < m) (hS : S k = true) (hq : ql + 3 ≤ 63) : ∀ (e i n : Nat) (M : gM), i + e = 3 → e + 1 ≤ n → Fg a M0 M → Pv M (a + 1) vt m → Pg M a vt m S k i → Qq M0 M a ql (nwS vt m S k i) → (∀ M1, Fg a M0 M1 → Pd M1 a vt m (rmv S k) → Qq M0 M1 a ql (nwS vt m S k 3) → R (iZ ((ql + (nwS vt m S k 3).length : Nat) : Int)) M1) → qX1_letGo N K R n 0 M a (iZ k) (iZ ((ql + (nwS vt m S k i).length : Nat) : Int)) (iZ i) := by
  intro e
  induction e with
  | zero =>
    intro i n M hi hn f hP hG hQ hE
    obtain ⟨n2, rfl⟩ : ∃ n2, n = n2 + 1 := ⟨n - 1, by omega⟩
    have e3 : i = 3 := by omega
    subst e3
    rw [qX1_letGo]
    unfold pX1_letGo_5
    exact ⟨fun _ => hE M f (hG.en hk hS) hQ, fun z => absurd (by decide) z⟩
  | succ e ih =>
    intro i n M hi hn f hP hG hQ hE
    obtain ⟨n2, rfl⟩ : ∃ n2, n = n2 + 1 := ⟨n - 1, by omega⟩
    have hi3 : i < 3 := by omega
    obtain ⟨pw, wV⟩ := pii_w hV hk hi3
    have w60 := hV.2.1
    have m30 := hV.1
    have nl := nwS_l (vt := vt) (m := m) (S := S) (k := k) (i := i)
    rw [qX1_letGo]
    unfold pX1_letGo_5
    have c3 : ¬ (3 : Int32) ≤ iZ (i : Int) := by rw [iZ_l3, iZ_le (by omega) (by omega) (by omega) (by omega)]; omega
    have icw : ic vt k (vt k i) = true := by
      rw [← pii_3, show (3 : Nat) = 2 + 1 from rfl]
      rcases (show i = 0 ∨ i = 1 ∨ i = 2 by omega) with z | z | z <;> subst z <;> unfold pii <;> simp
    have x := dg_rm (v := vt k i) hk hS icw
    have q := hG (vt k i) (by omega)
    rw [pw, if_neg (by decide), if_neg (by decide), Int.sub_zero] at q
    rw [show (3 : Int32) * iZ (k : Int) + iZ (i : Int) = iZ ((3 * k + i : Nat) : Int) by rw [iZ_l3, iZ_mul, iZ_add]; congr 1, iZ_cl (show 3 * k + i < 2147483648 by omega), hP k i hk hi3, iZ_cl (show vt k i < 2147483648 by omega)]
    have vw : vp_in (iZ ((vt k i : Nat) : Int)) 60 := iZ_in (by omega) (by omega) (by omega)
    refine ⟨fun z => absurd z c3, fun _ => ⟨iZ_in (by omega) (by omega) (by omega), vw, fun M1 h1 => ⟨vw, fun M2 h2 => ⟨vw, ?_⟩⟩⟩⟩
    have g1 : g_mi M1 (a + 5) (vt k i) = g_mi M (a + 5) (vt k i) := by rw [h1, mi_wi, if_neg (by omega)]
    rw [q.1, iZ_l1, iZ_sub] at h1
    rw [g1, q.2] at h2
    have g : ∀ c j, g_mi M2 c j = if c = a + 5 ∧ j = vt k i then xrS (pS vt S (vt k i)) m ^^^ iZ k else if c = a + 4 ∧ j = vt k i then iZ ((dgS vt m S (vt k i) : Int) - 1) else g_mi M c j := fun c j => by rw [h2, mi_wi, h1, mi_wi]
    have f2 : Fg a M0 M2 := fun c q1 q2 q3 => by
      have : g_mi M2 c = g_mi M c := by funext j; rw [g, if_neg (by omega), if_neg (by omega)]
      rw [this]; exact f c q1 q2 q3
    have gw : g_mi M2 (a + 4) (vt k i) = iZ ((dgS vt m (rmv S k) (vt k i) : Nat) : Int) := by
      rw [g, if_neg (by omega), if_pos ⟨rfl, rfl⟩]
      congr 1
      omega
    have dle : dgS vt m (rmv S k) (vt k i) ≤ m := cnt_le _ _
    have g7 : ∀ j, g_mi M2 (a + 7) j = g_mi M (a + 7) j := fun j => by rw [g, if_neg (by omega), if_neg (by omega)]
    -- the row behind this vertex
    have G2 : Pg M2 a vt m S k (i + 1) := fun v hv => by
      rw [pii_s hi3]
      by_cases c : vt k i = v
      · subst c
        rw [pw, show (false || decide (vt k i = vt k i)) = true by simp, if_pos rfl, if_pos rfl, g, if_neg (by omega), if_pos ⟨rfl, rfl⟩, g, if_pos ⟨rfl, rfl⟩]
        exact ⟨rfl, rfl⟩
      · have e4 : g_mi M2 (a + 4) v = g_mi M (a + 4) v := by rw [g, if_neg (by omega), if_neg (by omega)]
        have e5 : g_mi M2 (a + 5) v = g_mi M (a + 5) v := by rw [g, if_neg (by omega), if_neg (by omega)]
        rw [show (pii vt k i v || decide (vt k i = v)) = pii vt k i v by simp [c], e4, e5]
        exact hG v hv
    have P2 : Pv M2 (a + 1) vt m := fun k2 i2 q1 q2 => by rw [g, if_neg (by omega), if_neg (by omega)]; exact hP k2 i2 q1 q2
    have Q2 : Qq M0 M2 a ql (nwS vt m S k i) := ⟨fun j hj => by rw [g7]; exact hQ.1 j hj, fun j y hy => by rw [g7]; exact hQ.2 j y hy⟩
    have eq1 : (iZ ((dgS vt m (rmv S k) (vt k i) : Nat) : Int) = 1) = (dgS vt m (rmv S k) (vt k i) = 1) := by
      rw [iZ_l1, iZ_eq (by omega) (by omega) (by omega) (by omega)]; exact propext ⟨fun _ => by omega, fun _ => by omega⟩
    rw [gw, eq1, iZ_s1 i]
    refine ⟨fun z => ?_, fun z => ⟨fun y => ?_, fun _ => ⟨iZ_in (by omega) (by omega) (by omega), fun M3 h3 => ?_⟩⟩⟩
    · have en : nwS vt m S k (i + 1) = nwS vt m S k i := by rw [nwS_s, if_neg z, List.append_nil]
      have := ih (i + 1) n2 M2 (by omega) (by omega) f2 P2 G2 (by rw [en]; exact Q2) hE
      rw [en] at this
      exact this
    · exfalso
      rw [show (63 : Int32) = iZ 63 from rfl, iZ_le (by omega) (by omega) (by omega) (by omega)] at y; omega
    · have en : nwS vt m S k (i + 1) = nwS vt m S k i ++ [vt k i] := by rw [nwS_s, if_pos z]
      rw [iZ_cl (show ql + (nwS vt m S k i).length < 2147483648 by omega)] at h3
      have k3 : ∀ c j, c ≠ a + 7 → g_mi M3 c j = g_mi M2 c j := fun c j hc => by rw [h3, mi_wi, if_neg (by omega)]
      have := ih (i + 1) n2 M3 (by omega) (by omega) (fun c q1 q2 q3 => by
          have : g_mi M3 c = g_mi M2 c := by funext j; exact k3 c j q3
          rw [this]; exact f2 c q1 q2 q3) (fun k2 i2 q1 q2 => by rw [k3 _ _ (by omega)]; exact P2 k2 i2 q1 q2) (fun v hv => by rw [k3 _ _ (by omega), k3 _ _ (by omega)]; exact G2 v hv) (by
          rw [en]
          exact Q2.ext (by rw [h3, mi_wi, if_pos ⟨rfl, rfl⟩]) (fun j hj => by rw [h3, mi_wi, if_neg (by omega)])) hE
      rw [en, List.length_append] at this
      rw [iZ_s1]
      exact this
/-- a key let go -/
theorem lg_ok {M : gM} {R : Int32 → gM → Prop} (hN : 500 ≤ N) (hV : Vd vt m V) (hk : k < m) (hS : S k = true) (hq : ql + 3 ≤ 63) (hP : Pv M (a + 1) vt m) (hD : Pd M a vt m S) (hE : ∀ M1, Fg a M M1 → Pd M1 a vt m (rmv S k) → Qq M M1 a ql (nwS vt m S k 3) → R (iZ ((ql + (nwS vt m S k 3).length : Nat) : Int)) M1) : pX1_letGo N K M a (iZ k) (iZ ql) R := by
  unfold pX1_letGo pX1_letGo_0
  exact lg_loop (M0 := M) hV hk hS hq 3 0 N M (by omega) (by omega) (fun _ _ _ _ => rfl) hP (Pg.st hD) ⟨fun _ _ => rfl, fun j x hx => (by cases hx)⟩ hE
/-- the free vertex of least rank -/
def oI (o : Option Nat) : Int := match o with
  | none => -1
  | some v => v
theorem oI_n {o : Option Nat} (h : ∀ w, o = some w → w < 60) : (iZ (oI o) = -1) = (o = none) := by
  cases o with
  | none => exact propext ⟨fun _ => rfl, fun _ => rfl⟩
  | some w =>
    have := h w rfl
    refine propext ⟨fun z => ?_, fun z => (by cases z)⟩
    unfold oI at z
    dsimp only at z
    rw [iZ_n1, iZ_eq (by omega) (by omega) (by omega) (by omega)] at z
    omega
def nst (f : Nat → Bool) (rk : Nat → Int) (u : Nat) (b : Option Nat) : Option Nat := if f u = true then (match b with
    | none => some u
    | some w => if rk w ≤ rk u then some w else some u) else b
theorem nfr_s {f : Nat → Bool} {rk : Nat → Int} {n u : Nat} {b : Option Nat} : nfr f rk (n + 1) u b = nfr f rk n (u + 1) (nst f rk u b) := rfl
theorem nst_0 {f : Nat → Bool} {rk : Nat → Int} {u : Nat} {b : Option Nat} (h : f u = false) : nst f rk u b = b := by unfold nst; rw [if_neg (by rw [h]; decide)]
theorem nst_n {f : Nat → Bool} {rk : Nat → Int} {u : Nat} (h : f u = true) : nst f rk u none = some u := by unfold nst; rw [if_pos h]
theorem nst_s {f : Nat → Bool} {rk : Nat → Int} {u w : Nat} (h : f u = true) : nst f rk u (some w) = if rk w ≤ rk u then some w else some u := by unfold nst; rw [if_pos h]
theorem lf_loop {M : gM} {R : Int32 → Prop} {rk : Nat → Int} (hV : Vd vt m V) (hD : Pd M a vt m S) (hr : ∀ v, v < V → g_mi M (a + 6) v = iZ (rk v) ∧ 0 ≤ rk v ∧ rk v ≤ 99) : ∀ (e u n : Nat) (b : Option Nat), u + e = V → e + 1 ≤ n → (∀ w, b = some w → w < u) → R (iZ (oI (nfr (fun v => decide (dgS vt m S v = 1)) rk e u b))) → qX1_leastFree N K R n 0 M a (iZ V) (iZ (oI b)) (iZ u) := by
  have v60 := hV.2.1
  have m30 := hV.1
  intro e
  induction e with
  | zero =>
    intro u n b hu hn hb hR
    obtain ⟨n2, rfl⟩ : ∃ n2, n = n2 + 1 := ⟨n - 1, by omega⟩
    rw [qX1_leastFree]
    unfold pX1_leastFree_4
    have c1 : iZ (V : Int) ≤ iZ (u : Int) := by rw [iZ_le (by omega) (by omega) (by omega) (by omega)]; omega
    exact ⟨fun _ => hR, fun z => absurd c1 z⟩
  | succ e ih =>
    intro u n b hu hn hb hR
    obtain ⟨n2, rfl⟩ : ∃ n2, n = n2 + 1 := ⟨n - 1, by omega⟩
    rw [nfr_s] at hR
    rw [qX1_leastFree]
    unfold pX1_leastFree_4
    have c1 : ¬ iZ (V : Int) ≤ iZ (u : Int) := by rw [iZ_le (by omega) (by omega) (by omega) (by omega)]; omega
    have dle : dgS vt m S u ≤ m := cnt_le _ _
    have eq1 : (iZ ((dgS vt m S u : Nat) : Int) = 1) = (dgS vt m S u = 1) := by
      rw [iZ_l1, iZ_eq (by omega) (by omega) (by omega) (by omega)]; exact propext ⟨fun _ => by omega, fun _ => by omega⟩
    rw [iZ_cl (show u < 2147483648 by omega), (hD u (by omega)).1, eq1, (hr u (by omega)).1, iZ_s1, oI_n (fun w hw => by have := hb w hw; omega)]
    have bu : ∀ w, (some u : Option Nat) = some w → w < u + 1 := fun w hw => by cases hw; omega
    refine ⟨fun z => absurd z c1, fun _ => ⟨iZ_in (by omega) (by omega) (by omega), fun z => ?_, fun z => ⟨fun y => ?_, fun y => ?_⟩⟩⟩
    · rw [nst_0 (by simp [z])] at hR
      exact ih (u + 1) n2 b (by omega) (by omega) (fun w hw => by have := hb w hw; omega) hR
    · rw [y, nst_n (by simp [z])] at hR
      exact ih (u + 1) n2 (some u) (by omega) (by omega) bu hR
    · cases hbb : b with
      | none => exact absurd hbb y
      | some w =>
        have wu := hb w hbb
        rw [hbb, nst_s (by simp [z])] at hR
        have cw := iZ_cl (show w < 2147483648 by omega)
        unfold oI at *
        dsimp only at *
        rw [cw, (hr w (by omega)).1, iZ_le (by have := (hr w (by omega)).2; omega) (by have := (hr w (by omega)).2; omega) (by have := (hr u (by omega)).2; omega) (by have := (hr u (by omega)).2; omega)]
        refine ⟨iZ_in (by omega) (by omega) (by omega), fun x => ?_, fun x => ?_⟩
        · rw [if_pos x] at hR
          exact ih (u + 1) n2 (some w) (by omega) (by omega) (fun w2 hw => by cases hw; omega) hR
        · rw [if_neg x] at hR
          exact ih (u + 1) n2 (some u) (by omega) (by omega) bu hR
end CLET
