/-! The class's steps: sums, comparisons; a whole sum, a whole test. -/
def iO (o : Option Int) : Int32 := match o with
  | none => -2147483648
  | some v => iZ v
def ik (o : Int) : Int := if o = 143 then 6 else if o = 145 then 7 else if o = 142 then 8 else if o = 147 then 9 else if o = 137 then 10 else if o = 160 then 11 else if o = 162 then 12 else 13
theorem iO_ne {v : Int} (h1 : -1000000000 ≤ v) (h2 : v ≤ 1000000000) : ¬ iZ v = -2147483648 := by
  rw [show (-2147483648 : Int32) = iZ (-2147483648) from rfl, iZ_eq (by omega) (by omega) (by omega) (by omega)]; omega
/-- bounded, as the class has it -/
theorem cb_b {r : Int} (h1 : -2000000000000000000 ≤ r) (h2 : r ≤ 2000000000000000000) : (if 0 < lg_cmp (iL r) 1000000000 then (-2147483648 : Int32) else if 0 ≤ lg_cmp (iL r) (-1000000000) then (iL r).toInt32 else -2147483648) = iO (bdd r) := by
  have e1 : (0 < lg_cmp (iL r) 1000000000) = (1000000000 < r) := by
    rw [propext (lg_cmp_gt _ _), show (1000000000 : Int64) = iL 1000000000 from rfl, iL_lt (by omega) (by omega) (by omega) (by omega)]
  have e2 : (0 ≤ lg_cmp (iL r) (-1000000000)) = (-1000000000 ≤ r) := by
    rw [propext (lg_cmp_ge _ _), show (-1000000000 : Int64) = iL (-1000000000) from rfl, iL_le (by omega) (by omega) (by omega) (by omega)]
  unfold bdd
  by_cases c1 : 1000000000 < r
  · rw [if_pos (by rw [e1]; exact c1), if_neg (by omega)]; rfl
  · rw [if_neg (by rw [e1]; exact c1)]
    by_cases c2 : -1000000000 ≤ r
    · rw [if_pos (by rw [e2]; exact c2), if_pos (by omega), iZ_L (by omega) (by omega)]; rfl
    · rw [if_neg (by rw [e2]; exact c2), if_neg (by omega)]; rfl
section CB
variable {x y : Int} (x1 : -1000000000 ≤ x) (x2 : x ≤ 1000000000) (y1 : -1000000000 ≤ y) (y2 : y ≤ 1000000000)
theorem cb_143 (x1 : -1000000000 ≤ x) (x2 : x ≤ 1000000000) (y1 : -1000000000 ≤ y) (y2 : y ≤ 1000000000) : fX4_combined 6 (iZ x) (iZ y) = iO (ar 143 x y) := by
  unfold fX4_combined
  rw [if_pos rfl, iL_z (by omega) (by omega), iL_z (by omega) (by omega), iL_add, cb_b (by omega) (by omega)]; rfl
theorem cb_145 (x1 : -1000000000 ≤ x) (x2 : x ≤ 1000000000) (y1 : -1000000000 ≤ y) (y2 : y ≤ 1000000000) : fX4_combined 7 (iZ x) (iZ y) = iO (ar 145 x y) := by
  unfold fX4_combined
  rw [if_neg (by decide), if_pos rfl, iL_z (by omega) (by omega), iL_z (by omega) (by omega), iL_sub, cb_b (by omega) (by omega)]; rfl
theorem cb_142 (x1 : -1000000000 ≤ x) (x2 : x ≤ 1000000000) (y1 : -1000000000 ≤ y) (y2 : y ≤ 1000000000) : fX4_combined 8 (iZ x) (iZ y) = iO (ar 142 x y) := by
  have b3 := mul_b (x := x) (y := y) (B := 1000000000) (by omega) (by omega) (by omega) (by omega) (by omega)
  unfold fX4_combined
  rw [if_neg (by decide), if_neg (by decide), if_pos rfl, iL_z (by omega) (by omega), iL_z (by omega) (by omega), iL_mul, cb_b (by omega) (by omega)]; rfl
theorem cb_147 (x1 : -1000000000 ≤ x) (x2 : x ≤ 1000000000) (y1 : -1000000000 ≤ y) (y2 : y ≤ 1000000000) : fX4_combined 9 (iZ x) (iZ y) = iO (ar 147 x y) := by
  unfold fX4_combined ar
  rw [if_neg (by decide), if_neg (by decide), if_neg (by decide), if_pos rfl, if_neg (show ¬ (147 : Int) = 143 by decide), if_neg (show ¬ (147 : Int) = 145 by decide), if_neg (show ¬ (147 : Int) = 142 by decide)]
  by_cases c : y = 0
  · rw [if_pos (by rw [c]; rfl), if_pos c]; rfl
  · have c2 : ¬ iZ y = 0 := by rw [iZ_l0, iZ_eq (by omega) (by omega) (by omega) (by omega)]; exact c
    have b3 := @tdiv_b x y c
    have b4 : -1000000000 ≤ x.tdiv y ∧ x.tdiv y ≤ 1000000000 := by split at b3 <;> omega
    rw [if_neg c2, if_neg c, if_pos rfl, iZ_div (by omega) (by omega) (by omega) (by omega), iL_z (by omega) (by omega), cb_b (by omega) (by omega)]
theorem cb_137 (x1 : -1000000000 ≤ x) (x2 : x ≤ 1000000000) (y1 : -1000000000 ≤ y) (y2 : y ≤ 1000000000) : fX4_combined 10 (iZ x) (iZ y) = iO (ar 137 x y) := by
  unfold fX4_combined ar
  rw [if_neg (by decide), if_neg (by decide), if_neg (by decide), if_neg (by decide), if_pos rfl, if_neg (show ¬ (137 : Int) = 143 by decide), if_neg (show ¬ (137 : Int) = 145 by decide), if_neg (show ¬ (137 : Int) = 142 by decide)]
  by_cases c : y = 0
  · rw [if_pos (by rw [c]; rfl), if_pos c]; rfl
  · have c2 : ¬ iZ y = 0 := by rw [iZ_l0, iZ_eq (by omega) (by omega) (by omega) (by omega)]; exact c
    have b3 := @tmod_b x y
    have b4 : -1000000000 ≤ x.tmod y ∧ x.tmod y ≤ 1000000000 := by split at b3 <;> omega
    rw [if_neg c2, if_neg c, if_neg (show ¬ (137 : Int) = 147 by decide), iZ_rm (by omega) (by omega) (by omega) (by omega), iL_z (by omega) (by omega), cb_b (by omega) (by omega)]
theorem cb_160 (x1 : -1000000000 ≤ x) (x2 : x ≤ 1000000000) (y1 : -1000000000 ≤ y) (y2 : y ≤ 1000000000) : fX4_combined 11 (iZ x) (iZ y) = iZ (cp 160 x y) := by
  unfold fX4_combined cp
  rw [if_neg (by decide), if_neg (by decide), if_neg (by decide), if_neg (by decide), if_neg (by decide), if_pos rfl, if_pos rfl]
  have e : (iZ y ≤ iZ x) = (y ≤ x) := iZ_le (by omega) (by omega) (by omega) (by omega)
  by_cases c : y ≤ x
  · rw [if_pos (by rw [e]; exact c), if_neg (by omega)]; rfl
  · rw [if_neg (by rw [e]; exact c), if_pos (by omega)]; rfl
theorem cb_162 (x1 : -1000000000 ≤ x) (x2 : x ≤ 1000000000) (y1 : -1000000000 ≤ y) (y2 : y ≤ 1000000000) : fX4_combined 12 (iZ x) (iZ y) = iZ (cp 162 x y) := by
  unfold fX4_combined cp
  rw [if_neg (by decide), if_neg (by decide), if_neg (by decide), if_neg (by decide), if_neg (by decide), if_neg (by decide), if_pos rfl, if_neg (show ¬ (162 : Int) = 160 by decide), if_pos rfl]
  have e : (iZ x ≤ iZ y) = (x ≤ y) := iZ_le (by omega) (by omega) (by omega) (by omega)
  by_cases c : x ≤ y
  · rw [if_pos (by rw [e]; exact c), if_neg (by omega)]; rfl
  · rw [if_neg (by rw [e]; exact c), if_pos (by omega)]; rfl
theorem cb_161 (x1 : -1000000000 ≤ x) (x2 : x ≤ 1000000000) (y1 : -1000000000 ≤ y) (y2 : y ≤ 1000000000) : fX4_combined 13 (iZ x) (iZ y) = iZ (cp 161 x y) := by
  unfold fX4_combined cp
  rw [if_neg (by decide), if_neg (by decide), if_neg (by decide), if_neg (by decide), if_neg (by decide), if_neg (by decide), if_neg (by decide), if_pos rfl, if_neg (show ¬ (161 : Int) = 160 by decide), if_neg (show ¬ (161 : Int) = 162 by decide)]
  have e : (iZ x = iZ y) = (x = y) := iZ_eq (by omega) (by omega) (by omega) (by omega)
  by_cases c : x = y
  · rw [if_pos (by rw [e]; exact c), if_pos c]; rfl
  · rw [if_neg (by rw [e]; exact c), if_neg c]; rfl
end CB
theorem bdd_b {r v : Int} (h : bdd r = some v) : v = r ∧ -1000000000 ≤ v ∧ v ≤ 1000000000 := by
  unfold bdd at h
  split at h
  · cases h; rename_i c; exact ⟨rfl, c⟩
  · cases h
theorem ar_b {o x y v : Int} (h : ar o x y = some v) : -1000000000 ≤ v ∧ v ≤ 1000000000 := by
  unfold ar at h
  split at h
  · exact (bdd_b h).2
  split at h
  · exact (bdd_b h).2
  split at h
  · exact (bdd_b h).2
  split at h
  · cases h
  split at h
  · exact (bdd_b h).2
  · exact (bdd_b h).2
/-- two pieces and a step of both -/
theorem Cm_two {st nm : Nat → Int32} {p q r k k2 : Nat} {W : (Nat → Int32) → En → Prop} {A B : Dn} {g : Int → Int → Option Int} {c : Int32} (hA : Cm st nm p q k W A) (hB : Cm st nm q r k2 W B) (h1 : st r = c) (hc : ¬ c = 0 ∧ ¬ c = 1 ∧ ¬ c = 2 ∧ ¬ c = 3 ∧ ¬ c = 4 ∧ ¬ c = 5) (hbt : ∀ w e, W w e → Eb e) (bA : Bs A) (bB : Bs B) (hg : ∀ x y, -1000000000 ≤ x → x ≤ 1000000000 → -1000000000 ≤ y → y ≤ 1000000000 → fX4_combined c (iZ x) (iZ y) = iO (g x y) ∧ ∀ v, g x y = some v → -1000000000 ≤ v ∧ v ≤ 1000000000) : Cm st nm p (r + 1) (k + k2) W (fun e => (A e).bind fun x => (B e).bind fun y => g x y) := by
  have hpq := hA.1
  have hqr := hB.1
  refine ⟨⟨by omega, by omega⟩, fun N K L su tx n1 m1 n d t e M R hS hq hd ht hn hN hV => ?_⟩
  have he : Eb e := hbt _ _ hS.2.2.2.2.1
  refine hA.2 N K L su tx n1 m1 n d t e M R (hS.sub (by omega) (by omega)) (by omega) (by omega) (by omega) (by omega) (fun hD => hN (by dsimp only; rw [hD]; rfl)) (fun x M1 n2 t2 hx f1 s1 s2 hn2 ht2 => ?_)
  have bx := bA e x he hx
  refine hB.2 N K L su tx n1 m1 n2 (d + 1) t2 e M1 R ((hS.fs f1).sub (by omega) (by omega)) (by omega) (by omega) (by omega) (by omega) (fun hD M2 f2 => hN (by dsimp only; rw [hx, hD]; rfl) M2 (f1.tr f2)) (fun y M2 n3 t3 hy f2 s3 s4 hn3 ht3 => ?_)
  have by_ := bB e y he hy
  obtain ⟨g1, g2⟩ := hg x y bx.1 bx.2 by_.1 by_.2
  have f12 := f1.tr f2
  obtain ⟨m, rfl⟩ : ∃ m, n3 = m + 1 := ⟨n3 - 1, by omega⟩
  have sx : g_mi M2 (su + 2) d = iZ x := (s3 d (by omega)).trans s2
  refine v_in (hS.fs f12) (by omega) (by omega) (by omega) (by omega) (by omega) (fun z => absurd (h1.symm.trans z) hc.1) (fun z => absurd (h1.symm.trans z) hc.2.1) (fun z => absurd (h1.symm.trans z) hc.2.2.1) (fun z => absurd (h1.symm.trans z) hc.2.2.2.1) (fun z => absurd (h1.symm.trans z) hc.2.2.2.2.1) (fun z => absurd (h1.symm.trans z) hc.2.2.2.2.2) (fun _ _ _ _ _ _ => ⟨by omega, fun v hv => ?_⟩)
  rw [h1, show d + 1 + 1 - 2 = d by omega, show d + 1 + 1 - 1 = d + 1 by omega, sx, s4, g1] at hv
  rw [show d + 1 + 1 - 2 = d by omega, show d + 1 + 1 - 1 = d + 1 by omega]
  cases hgv : g x y with
  | none =>
    rw [hgv] at hv
    exact ⟨fun z => absurd hv z, fun _ => hN (by dsimp only; rw [hx, hy]; exact hgv) M2 f12⟩
  | some u =>
    rw [hgv] at hv
    have hv : v = iZ u := hv
    have bu := g2 u hgv
    refine ⟨fun _ M3 hM => ?_, fun z => absurd (hv.symm.trans z) (iO_ne bu.1 bu.2)⟩
    refine hV u M3 m (t3 + 1) (by dsimp only; rw [hx, hy]; exact hgv) (f12.tr (by rw [hM]; exact Fs.wi)) (fun i hi => ?_) ?_ (by omega) (by omega)
    · rw [hM, mi_wi, if_neg (by omega)]; exact (s3 i (by omega)).trans (s1 i hi)
    · rw [hM, mi_wi, if_pos ⟨rfl, rfl⟩, hv]
theorem Cm_ar {st nm : Nat → Int32} {p q r k k2 : Nat} {W : (Nat → Int32) → En → Prop} {A B : Dn} {o : Int} (hA : Cm st nm p q k W A) (hB : Cm st nm q r k2 W B) (ho : o = 143 ∨ o = 145 ∨ o = 142 ∨ o = 147 ∨ o = 137) (h1 : st r = iZ (ik o)) (hbt : ∀ w e, W w e → Eb e) (bA : Bs A) (bB : Bs B) : Cm st nm p (r + 1) (k + k2) W (arD o A B) := by
  refine Cm_two (g := ar o) hA hB h1 ?_ hbt bA bB (fun x y x1 x2 y1 y2 => ⟨?_, fun v hv => ar_b hv⟩)
  · rcases ho with z | z | z | z | z <;> subst z <;> decide
  · rcases ho with z | z | z | z | z <;> subst z
    · exact cb_143 x1 x2 y1 y2
    · exact cb_145 x1 x2 y1 y2
    · exact cb_142 x1 x2 y1 y2
    · exact cb_147 x1 x2 y1 y2
    · exact cb_137 x1 x2 y1 y2
theorem Cm_cp {st nm : Nat → Int32} {p q r k k2 : Nat} {W : (Nat → Int32) → En → Prop} {A B : Dn} {o : Int} (hA : Cm st nm p q k W A) (hB : Cm st nm q r k2 W B) (ho : o = 160 ∨ o = 162 ∨ o = 161) (h1 : st r = iZ (ik o)) (hbt : ∀ w e, W w e → Eb e) (bA : Bs A) (bB : Bs B) : Cm st nm p (r + 1) (k + k2) W (cpD o A B) := by
  refine Cm_two (g := fun x y => some (cp o x y)) hA hB h1 ?_ hbt bA bB (fun x y x1 x2 y1 y2 => ⟨?_, fun v hv => ?_⟩)
  · rcases ho with z | z | z <;> subst z <;> decide
  · rcases ho with z | z | z <;> subst z
    · exact cb_160 x1 x2 y1 y2
    · exact cb_162 x1 x2 y1 y2
    · exact cb_161 x1 x2 y1 y2
  · cases hv; rcases cp01 o x y with z | z <;> rw [z] <;> omega
/-- a whole sum, a whole test: from its first step to its stop -/
theorem Cm_all {st nm : Nat → Int32} {p q k : Nat} {W : (Nat → Int32) → En → Prop} {D : Dn} (hC : Cm st nm p q k W D) (h1 : st q = 0) (hk : k ≤ 51) {N K L su tx n1 m1 : Nat} {e : En} {M : gM} {R : Int32 → gM → Prop} (hN : 500 ≤ N) (hS : Sx st nm p (q + 1) L (fun w => W w e) su tx m1 M) (hq : q < L) (hR : ∀ M1, Fs su M M1 → R (iO (D e)) M1) : pX4_valueOf N K M su tx n1 m1 (iZ p) R := by
  have hpq := hC.1
  have hL := hS.2.1
  have hm := hS.2.2.1
  unfold pX4_valueOf pX4_valueOf_0
  refine hC.2 N K L su tx n1 m1 N 0 0 e M R (hS.sub (by omega) (by omega)) (by omega) (by omega) (by omega) (by omega) (fun hD M1 f1 => ?_) (fun v M1 n2 t2 hD f1 s1 s2 hn2 ht2 => ?_)
  · have := hR M1 f1; rw [hD] at this; exact this
  · obtain ⟨m, rfl⟩ : ∃ m, n2 = m + 1 := ⟨n2 - 1, by omega⟩
    have := hR M1 f1
    rw [hD] at this
    refine v_in (hS.fs f1) (by omega) (by omega) hq (by omega) (by omega) (fun _ => ⟨fun z => absurd rfl z, fun _ => by rw [s2]; exact this⟩) (fun z => absurd (h1.symm.trans z) (by decide)) (fun z => absurd (h1.symm.trans z) (by decide)) (fun z => absurd (h1.symm.trans z) (by decide)) (fun z => absurd (h1.symm.trans z) (by decide)) (fun z => absurd (h1.symm.trans z) (by decide)) (fun z => absurd h1 z)
/-- other rows that have the same steps there -/
theorem Cm.cg {st nm st2 nm2 : Nat → Int32} {p q k : Nat} {W W2 : (Nat → Int32) → En → Prop} {D : Dn} (h : Cm st nm p q k W D) (h1 : ∀ i, p ≤ i → i < q → st2 i = st i ∧ nm2 i = nm i) (hW : ∀ w e, W2 w e → W w e) : Cm st2 nm2 p q k W2 D := by
  refine ⟨h.1, fun N K L su tx n1 m1 n d t e M R hS hq hd ht hn hN hV => ?_⟩
  refine h.2 N K L su tx n1 m1 n d t e M R ⟨hS.1, hS.2.1, hS.2.2.1, fun i hi hj => ?_, hW _ _ hS.2.2.2.2.1, hS.2.2.2.2.2⟩ hq hd ht hn hN hV
  rw [← (h1 i hi hj).1, ← (h1 i hi hj).2]
  exact hS.2.2.2.1 i hi hj
