/-! The table as both lay it: signs and steps, from the last peeled key back; the class's. -/
theorem mod_hit {o p s mm : Int} (h0 : 0 ≤ p) (h1 : p < mm) (s0 : 0 ≤ s) (s1 : s ≤ (p - o) % mm) : ((o + s) % mm = p) = (s = (p - o) % mm) := by
  have q1 := Int.emod_lt_of_pos (p - o) (show 0 < mm by omega)
  refine propext ⟨fun h => ?_, fun h => ?_⟩
  · rw [← h, Int.emod_sub_emod, show o + s - o = s by omega, Int.emod_eq_of_lt s0 (by omega)]
  · rw [h, Int.add_emod_emod, show o + (p - o) = p by omega, Int.emod_eq_of_lt h0 h1]
def tbG (vt : Nat → Nat → Nat) (d mm : Int) : List (Nat × Nat) → (Nat → Int) × (Nat → Int)
  | [] => (fun _ => 3, fun _ => 0)
  | x :: L => (va_up (tbG vt d mm L).1 x.2 (((x.2 : Int).tdiv d - otF (tbG vt d mm L).1 vt x.1 x.2 3) % 3), va_up (tbG vt d mm L).2 x.2 (((x.1 : Int) - otF (tbG vt d mm L).2 vt x.1 x.2 3) % mm))
theorem tbG_b {vt : Nat → Nat → Nat} {d mm : Int} (m0 : 1 ≤ mm) (m1 : mm ≤ 30) : ∀ (L : List (Nat × Nat)) (u : Nat), (0 ≤ (tbG vt d mm L).1 u ∧ (tbG vt d mm L).1 u ≤ 3) ∧ (0 ≤ (tbG vt d mm L).2 u ∧ (tbG vt d mm L).2 u ≤ 29) := by
  intro L
  induction L with
  | nil => intro u; unfold tbG; dsimp only; omega
  | cons x L ih =>
    intro u
    unfold tbG
    dsimp only
    by_cases c : u = x.2
    · subst c
      rw [up_eq, up_eq]
      have a0 := Int.emod_nonneg ((x.2 : Int).tdiv d - otF (tbG vt d mm L).1 vt x.1 x.2 3) (show (3 : Int) ≠ 0 by decide)
      have a1 := Int.emod_lt_of_pos ((x.2 : Int).tdiv d - otF (tbG vt d mm L).1 vt x.1 x.2 3) (show (0 : Int) < 3 by decide)
      have b0 := Int.emod_nonneg ((x.1 : Int) - otF (tbG vt d mm L).2 vt x.1 x.2 3) (show mm ≠ 0 by omega)
      have b1 := Int.emod_lt_of_pos ((x.1 : Int) - otF (tbG vt d mm L).2 vt x.1 x.2 3) (show 0 < mm by omega)
      omega
    · rw [up_ne c, up_ne c]; exact ih u
theorem tbG_0 {vt : Nat → Nat → Nat} {d mm : Int} {v : Nat} : ∀ {L : List (Nat × Nat)}, (∀ y ∈ L, y.2 ≠ v) → (tbG vt d mm L).2 v = 0 := by
  intro L
  induction L with
  | nil => intro _; rfl
  | cons x L ih =>
    intro h
    unfold tbG
    dsimp only
    rw [up_ne (fun z => h x (List.mem_cons_self ..) z.symm)]
    exact ih (fun y hy => h y (List.mem_cons_of_mem _ hy))
/-- what is peeled: keys, vertices of theirs, none twice -/
def Fz (vt : Nat → Nat → Nat) (m V : Nat) : List (Nat × Nat) → Prop
  | [] => True
  | x :: L => (x.1 < m ∧ x.2 < V ∧ ic vt x.1 x.2 = true ∧ ∀ y ∈ L, y.2 ≠ x.2) ∧ Fz vt m V L
theorem Fz.drop {vt : Nat → Nat → Nat} {m V : Nat} : ∀ {L : List (Nat × Nat)} (i : Nat), Fz vt m V L → Fz vt m V (L.drop i) := by
  intro L
  induction L with
  | nil => intro i _; rw [List.drop_nil]; trivial
  | cons x L ih =>
    intro i h
    cases i with
    | zero => exact h
    | succ i => rw [List.drop_succ_cons]; exact ih i h.2
theorem dg_mono {vt : Nat → Nat → Nat} {m k v : Nat} {S : Nat → Bool} : dgS vt m (rmv S k) v ≤ dgS vt m S v := cnt_mono (fun i hi h => by
  unfold pS rmv at *
  simp only [Bool.and_eq_true] at h ⊢
  exact ⟨h.1.1, h.2⟩)
theorem pel_Fz {vt : Nat → Nat → Nat} {m V : Nat} {rk : Nat → Int} : ∀ (f : Nat) (S : Nat → Bool), Fz vt m V (pel vt m V rk f S) ∧ ∀ x ∈ pel vt m V rk f S, 1 ≤ dgS vt m S x.2 := by
  intro f
  induction f with
  | zero => intro S; exact ⟨trivial, fun x hx => (by cases hx)⟩
  | succ f ih =>
    intro S
    rw [pel]
    cases h : nfS vt m V rk S with
    | none => exact ⟨trivial, fun x hx => (by cases hx)⟩
    | some v =>
      obtain ⟨a1, a2, a3, a4, a5, _⟩ := nfS_s h
      obtain ⟨i1, i2⟩ := ih (rmv S (kyS vt m S v))
      have d0 := (dg_rm (v := v) a3 a4 a5).1
      dsimp only
      refine ⟨⟨⟨a3, a1, a5, fun y hy z => ?_⟩, i1⟩, fun x hx => ?_⟩
      · have := i2 y hy
        rw [z] at this
        dsimp only at this
        omega
      · rcases List.mem_cons.mp hx with e | e
        · rw [e]; dsimp only; omega
        · have := i2 x e
          have := dg_mono (vt := vt) (m := m) (k := kyS vt m S v) (v := x.2) (S := S)
          omega
theorem pel_cg {vt vt2 : Nat → Nat → Nat} {m V : Nat} {rk rk2 : Nat → Int} (h : ∀ k i, k < m → vt k i = vt2 k i) (hr : ∀ v, rk v = rk2 v) : ∀ (f : Nat) (S : Nat → Bool), pel vt m V rk f S = pel vt2 m V rk2 f S := by
  have e1 : rk = rk2 := funext hr
  subst e1
  have e2 : ∀ S v, dgS vt m S v = dgS vt2 m S v := dg_cg h
  have e3 : ∀ S, nfS vt m V rk S = nfS vt2 m V rk S := fun S => by
    unfold nfS
    congr 1
    funext v
    rw [e2]
  have e4 : ∀ S v, kyS vt m S v = kyS vt2 m S v := fun S v => (xs_congr (fun j hj => by unfold pS ic; rw [h j 0 hj, h j 1 hj, h j 2 hj])).2
  intro f
  induction f with
  | zero => intro S; rfl
  | succ f ih =>
    intro S
    rw [pel, pel, e3]
    cases nfS vt2 m V rk S with
    | none => rfl
    | some v => dsimp only; rw [e4, ih]
/-- the row with a table -/
def tbR (r : Nat → Int) (p : (Nat → Int) × (Nat → Int)) : Nat → Int := fun i => if i = 33 then 1 else if i = 34 then r 31 else if i = 35 then r 32 else if i = 36 then r 0 else if 37 ≤ i ∧ i < 67 then (if ((i - 37 : Nat) : Int) < r 0 then r (i - 36) else 0) else if 67 ≤ i ∧ i < 127 then p.1 (i - 67) else if 127 ≤ i ∧ i < 187 then p.2 (i - 127) else r i
section TBR
variable {r : Nat → Int} {p : (Nat → Int) × (Nat → Int)}
theorem tbR_lo {i : Nat} (h : i < 33 ∨ 187 ≤ i) : tbR r p i = r i := by
  unfold tbR
  rw [if_neg (by omega), if_neg (by omega), if_neg (by omega), if_neg (by omega), if_neg (by omega), if_neg (by omega), if_neg (by omega)]
theorem tbR_33 : tbR r p 33 = 1 := rfl
theorem tbR_34 : tbR r p 34 = r 31 := rfl
theorem tbR_35 : tbR r p 35 = r 32 := rfl
theorem tbR_36 : tbR r p 36 = r 0 := rfl
theorem tbR_k {i : Nat} (h : i < 30) : tbR r p (37 + i) = if (i : Int) < r 0 then r (1 + i) else 0 := by
  unfold tbR
  rw [if_neg (by omega), if_neg (by omega), if_neg (by omega), if_neg (by omega), if_pos (by omega), show 37 + i - 37 = i by omega, show 37 + i - 36 = 1 + i by omega]
theorem tbR_s {v : Nat} (h : v < 60) : tbR r p (67 + v) = p.1 v := by
  unfold tbR
  rw [if_neg (by omega), if_neg (by omega), if_neg (by omega), if_neg (by omega), if_neg (by omega), if_pos (by omega), show 67 + v - 67 = v by omega]
theorem tbR_p {v : Nat} (h : v < 60) : tbR r p (127 + v) = p.2 v := by
  unfold tbR
  rw [if_neg (by omega), if_neg (by omega), if_neg (by omega), if_neg (by omega), if_neg (by omega), if_neg (by omega), if_pos (by omega), show 127 + v - 127 = v by omega]
theorem tbR_us {v : Nat} {x : Int} (h : v < 60) : va_up (tbR r p) (67 + v) x = tbR r (va_up p.1 v x, p.2) := by
  funext i
  by_cases c : i = 67 + v
  · subst c; rw [up_eq, tbR_s h]; exact up_eq.symm
  · rw [up_ne c]
    unfold tbR
    dsimp only
    by_cases c2 : 67 ≤ i ∧ i < 127
    · rw [up_ne (show i - 67 ≠ v by omega)]
    · rw [if_neg c2, if_neg c2]
theorem tbR_up {v : Nat} {x : Int} (h : v < 60) : va_up (tbR r p) (127 + v) x = tbR r (p.1, va_up p.2 v x) := by
  funext i
  by_cases c : i = 127 + v
  · subst c; rw [up_eq, tbR_p h]; exact up_eq.symm
  · rw [up_ne c]
    unfold tbR
    dsimp only
    by_cases c2 : 127 ≤ i ∧ i < 187
    · rw [up_ne (show i - 127 ≠ v by omega)]
    · rw [if_neg c2, if_neg c2]
theorem tbR_V (hV : Vk r) : Vk (tbR r p) := by
  refine hV.up (fun i hi => tbR_lo (by omega)) ?_ ?_ ?_ ?_ ?_ ?_
  all_goals first | rw [tbR_lo (i := 31) (by omega)] | rw [tbR_lo (i := 32) (by omega)] | rw [tbR_lo (i := 187) (by omega)]
  · exact hV.2.2.2.2.1
  · exact hV.2.2.2.2.2.1
  · exact hV.2.2.2.2.2.2.1
  · exact hV.2.2.2.2.2.2.2.1
  · exact hV.2.2.2.2.2.2.2.2.1
  · exact hV.2.2.2.2.2.2.2.2.2
theorem tbR_T (hV : Vk r) (hp : ∀ u, u < 60 → (0 ≤ p.1 u ∧ p.1 u ≤ 3) ∧ (0 ≤ p.2 u ∧ p.2 u ≤ 29)) : Vt (tbR r p) := by
  refine ⟨Or.inr rfl, fun _ => ?_⟩
  rw [tbR_34, tbR_35, tbR_36]
  refine ⟨hV.2.2.2.2.1, hV.2.2.2.2.2.1, hV.2.2.2.2.2.2.1, hV.2.2.2.2.2.2.2.1, hV.1, hV.2.1, fun i hi => ?_, fun v hv => ?_, fun v hv => ?_⟩
  · have := hV.2.1
    rw [tbR_k (by omega), if_pos hi]; exact hV.2.2.1 i hi
  · rw [tbR_s hv]; exact (hp v hv).1
  · rw [tbR_p hv]; exact (hp v hv).2
end TBR
section SOL
variable {N K st pe : Nat} {r : Nat → Int} {vt : Nat → Nat → Nat} {L : List (Nat × Nat)}
def Fso (st : Nat) (M M1 : gM) : Prop := ∀ c j, (c < st + 3 ∨ st + 6 < c) → g_mi M1 c j = g_mi M c j
theorem so_loop {M0 : gM} {R : gM → Prop} {V : Nat} {d : Int} (hN : 500 ≤ N) (hV : Vd vt (r 0).toNat V) (r0 : 0 ≤ r 0) (hF : Fz vt (r 0).toNat V L) (hl : L.length ≤ 30) (d0 : 2 ≤ d) (d1 : d ≤ 20) (ds : st + 6 < pe ∨ pe + 7 < st) (hP : Pv M0 (pe + 1) vt (r 0).toNat) (hL : Lp M0 pe 0 L) : ∀ (j n : Nat) (M : gM), j ≤ L.length → j + 1 ≤ n → Fso st M0 M → g_mi M (st + 3) 5 = iZ d → g_mi M (st + 3) 4 = iZ (r 0) → (∀ u, u < 60 → g_mi M (st + 3 + 2) u = iZ ((tbG vt d (r 0) (L.drop j)).1 u)) → (∀ u, u < 60 → g_mi M (st + 3 + 3) u = iZ ((tbG vt d (r 0) (L.drop j)).2 u)) → (∀ M1, Fso st M0 M1 → (∀ c i, c ≠ st + 3 + 2 → c ≠ st + 3 + 3 → g_mi M1 c i = g_mi M c i) → (∀ u, u < 60 → g_mi M1 (st + 3 + 2) u = iZ ((tbG vt d (r 0) L).1 u)) → (∀ u, u < 60 → g_mi M1 (st + 3 + 3) u = iZ ((tbG vt d (r 0) L).2 u)) → R M1) → qX5_solve N K R n 0 M (st + 3) pe (iZ ((j : Int) - 1)) := by
  have m30 := hV.1
  have v60 := hV.2.1
  intro j
  induction j with
  | zero =>
    intro n M hj hn f h5 h4 hs hp hE
    obtain ⟨n2, rfl⟩ : ∃ n2, n = n2 + 1 := ⟨n - 1, by omega⟩
    rw [qX5_solve]
    unfold pX5_solve_67
    exact ⟨fun _ => hE M f (fun _ _ _ _ => rfl) hs hp, fun z => absurd (by decide) z⟩
  | succ j ih =>
    intro n M hj hn f h5 h4 hs hp hE
    obtain ⟨n2, rfl⟩ : ∃ n2, n = n2 + 1 := ⟨n - 1, by omega⟩
    rw [qX5_solve]
    unfold pX5_solve_67
    have hj2 : j < L.length := by omega
    rw [show ((j + 1 : Nat) : Int) - 1 = (j : Int) by omega]
    have c1 : ¬ iZ (j : Int) < 0 := by rw [iZ_l0, iZ_lt (by omega) (by omega) (by omega) (by omega)]; omega
    obtain ⟨l1, l2⟩ := hL j L[j] (List.getElem?_eq_getElem hj2)
    rw [Nat.zero_add] at l1 l2
    have ed := List.drop_eq_getElem_cons hj2
    have hF2 := hF.drop j
    rw [ed] at hF2
    obtain ⟨⟨k1, k2, k3, k4⟩, _⟩ := hF2
    have mm : 1 ≤ r 0 := by omega
    have bb := tbG_b (vt := vt) (d := d) mm (by omega) (L.drop (j + 1))
    rw [iZ_cl (show j < 2147483648 by omega), f (pe + 3) j (by omega), f (pe + 2) j (by omega), l1, l2]
    refine ⟨fun z => absurd z c1, fun _ => ⟨iZ_in (by omega) (by omega) (by omega), ?_⟩⟩
    refine se_ok (sg := (tbG vt d (r 0) (L.drop (j + 1))).1) (sp := (tbG vt d (r 0) (L.drop (j + 1))).2) hN hV k1 (by omega) (fun k i q1 q2 => by rw [f _ _ (by omega)]; exact hP k i q1 q2) h5 h4 d0 d1 mm (by omega) (fun u hu => ⟨hs u hu, (bb u).1⟩) (fun u hu => ⟨hp u hu, (bb u).2⟩) (fun M1 f1 e1 e2 => ?_)
    rw [show iZ (j : Int) + -1 = iZ ((j : Int) - 1) by rw [iZ_n1, iZ_add]; rfl]
    have f2 : Fso st M0 M1 := fun c i q => by rw [f1 c i (by omega)]; exact f c i q
    refine ih n2 M1 (by omega) (by omega) f2 (by rw [f1 _ _ (by omega)]; exact h5) (by rw [f1 _ _ (by omega)]; exact h4) (fun u hu => ?_) (fun u hu => ?_) (fun M2 g1 g2 => hE M2 g1 (fun c i q1 q2 => by rw [g2 c i q1 q2, f1 c i (by omega)]))
    · rw [ed, tbG]
      dsimp only
      by_cases c : u = L[j].2
      · rw [c, up_eq]; exact e1
      · rw [up_ne c, f1 _ _ (by omega)]; exact hs u hu
    · rw [ed, tbG]
      dsimp only
      by_cases c : u = L[j].2
      · rw [c, up_eq]; exact e2
      · rw [up_ne c, f1 _ _ (by omega)]; exact hp u hu
theorem so_ok {M : gM} {R : gM → Prop} {V : Nat} (hN : 500 ≤ N) (hK : Vk r) (hR : Rk M st r) (hV : Vd vt (r 0).toNat V) (hF : Fz vt (r 0).toNat V L) (hl : L.length ≤ 30) (ds : st + 6 < pe ∨ pe + 7 < st) (hP : Pv M (pe + 1) vt (r 0).toNat) (hL : Lp M pe 0 L) (h8 : g_mi M pe 8 = iZ L.length) (hE : ∀ M1, Fso st M M1 → Rt M1 (st + 3) (tbR r (tbG vt (r 31) (r 0) L)) → R M1) : pX5_solve N K M (st + 3) st pe R := by
  have r0 := hK.1
  have r30 := hK.2.1
  unfold pX5_solve pX5_solve_0
  intro M1 h1 M2 h2 M3 h3 M4 h4 M5 h5
  refine ⟨fill_E (by omega) (by omega), fun M6 h6 => ⟨fill_E (by omega) (by omega), fun M7 h7 => ?_⟩⟩
  rw [fill_m (by omega) (by omega)] at h6 h7
  have a3 : g_mi M1 st 3 = iZ (r 0) := by rw [h1, mi_wi, if_neg (by omega)]; exact hR.1
  have a4 : g_mi M2 st 4 = iZ (r 31) := by rw [h2, mi_wi, if_neg (by omega), h1, mi_wi, if_neg (by omega)]; exact hR.2.2.1
  have a5 : g_mi M3 st 5 = iZ (r 32) := by rw [h3, mi_wi, if_neg (by omega), h2, mi_wi, if_neg (by omega), h1, mi_wi, if_neg (by omega)]; exact hR.2.2.2.1
  rw [a3] at h2
  rw [a4] at h3
  rw [a5] at h4
  have g4 : ∀ c j, g_mi M4 c j = if c = st + 3 ∧ j = 6 then iZ (r 32) else if c = st + 3 ∧ j = 5 then iZ (r 31) else if c = st + 3 ∧ j = 4 then iZ (r 0) else if c = st + 3 ∧ j = 3 then 1 else g_mi M c j := fun c j => by rw [h4, mi_wi, h3, mi_wi, h2, mi_wi, h1, mi_wi]
  have g7 : ∀ c j, g_mi M7 c j = if c = st + 3 + 3 ∧ j < 60 then 0 else if c = st + 3 + 2 ∧ j < 60 then 3 else g_mi M5 c j := fun c j => by rw [h7, h6]; rfl
  have g5 : ∀ c j, g_mi M5 c j = if c = st + 3 + 1 then (if 0 ≤ j ∧ j < 0 + 30 then g_mi M4 (st + 1) (0 + (j - 0)) else g_mi M4 (st + 3 + 1) j) else g_mi M4 c j := fun c j => by rw [h5, mi_cp]
  have gf : Fso st M M7 := fun c j q => by
    rw [g7, if_neg (by omega), if_neg (by omega), g5, if_neg (by omega), g4, if_neg (by omega), if_neg (by omega), if_neg (by omega), if_neg (by omega)]
  have gt : ∀ j, g_mi M7 (st + 3) j = g_mi M4 (st + 3) j := fun j => by rw [g7, if_neg (by omega), if_neg (by omega), g5, if_neg (by omega)]
  have t3 : g_mi M7 (st + 3) 3 = iZ 1 := by rw [gt, g4, if_neg (by omega), if_neg (by omega), if_neg (by omega), if_pos ⟨rfl, rfl⟩]; rfl
  have t4 : g_mi M7 (st + 3) 4 = iZ (r 0) := by rw [gt, g4, if_neg (by omega), if_neg (by omega), if_pos ⟨rfl, rfl⟩]
  have t5 : g_mi M7 (st + 3) 5 = iZ (r 31) := by rw [gt, g4, if_neg (by omega), if_pos ⟨rfl, rfl⟩]
  have t6 : g_mi M7 (st + 3) 6 = iZ (r 32) := by rw [gt, g4, if_pos ⟨rfl, rfl⟩]
  rw [gf pe 8 (by omega), h8, show iZ (L.length : Int) - 1 = iZ ((L.length : Int) - 1) by rw [iZ_l1, iZ_sub]]
  refine so_loop (M0 := M7) (d := r 31) hN hV r0 hF hl hK.2.2.2.2.1 hK.2.2.2.2.2.1 ds (fun k i q1 q2 => by rw [gf _ _ (by omega)]; exact hP k i q1 q2) (fun j x hx => by rw [gf _ _ (by omega), gf _ _ (by omega)]; exact hL j x hx) L.length N M7 (Nat.le_refl _) (by omega) (fun _ _ _ => rfl) t5 t4 (fun u hu => ?_) (fun u hu => ?_) (fun M8 f8 k8 s8 p8 => hE M8 (fun c j q => (f8 c j q).trans (gf c j q)) ?_)
  · rw [List.drop_length, g7, if_neg (by omega), if_pos ⟨rfl, hu⟩]; rfl
  · rw [List.drop_length, g7, if_pos ⟨rfl, hu⟩]; rfl
  · refine ⟨by rw [k8 _ _ (by omega) (by omega)]; exact t3, fun _ => ⟨by rw [k8 _ _ (by omega) (by omega)]; exact t5, by rw [k8 _ _ (by omega) (by omega)]; exact t6, by rw [k8 _ _ (by omega) (by omega)]; exact t4, fun i hi => ?_, fun v hv => ?_, fun v hv => ?_⟩⟩
    · rw [tbR_36] at hi
      rw [tbR_k (by omega), if_pos hi, k8 _ _ (by omega) (by omega), g7, if_neg (by omega), if_neg (by omega), g5, if_pos rfl, if_pos (by omega), g4, if_neg (by omega), if_neg (by omega), if_neg (by omega), if_neg (by omega), Nat.zero_add, Nat.sub_zero]
      exact hR.2.1 i hi
    · rw [tbR_s hv]; exact s8 v hv
    · rw [tbR_p hv]; exact p8 v hv
end SOL
