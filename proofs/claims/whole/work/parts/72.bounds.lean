/-! Tests are 0 or 1, sums within bounds; the class's tokens. -/
theorem Bt_or {a b : Dn} (hb : Bt b) : Bt (orD a b) := fun e x he hx => by
  unfold orD at hx
  cases ha : a e with
  | none => rw [ha] at hx; cases hx
  | some y =>
    rw [ha] at hx
    have hx : (if y = 1 then some 1 else b e) = some x := hx
    split at hx
    · cases hx; exact Or.inr rfl
    · exact hb e x he hx
theorem Bt_and {a b : Dn} (hb : Bt b) : Bt (andD a b) := fun e x he hx => by
  unfold andD at hx
  cases ha : a e with
  | none => rw [ha] at hx; cases hx
  | some y =>
    rw [ha] at hx
    have hx : (if y = 0 then some 0 else b e) = some x := hx
    split at hx
    · cases hx; exact Or.inl rfl
    · exact hb e x he hx
theorem Bt_not {a : Dn} (h : Bt a) : Bt (notD a) := fun e x he hx => by
  unfold notD at hx
  cases ha : a e with
  | none => rw [ha] at hx; cases hx
  | some y =>
    rw [ha] at hx
    have hx : some (1 - y) = some x := hx
    cases hx
    have := h e y he ha
    omega
theorem Bt_cp {o : Int} {a b : Dn} : Bt (cpD o a b) := fun e x he hx => by
  unfold cpD at hx
  cases ha : a e with
  | none => rw [ha] at hx; cases hx
  | some y =>
    cases hb : b e with
    | none => rw [ha, hb] at hx; cases hx
    | some z =>
      rw [ha, hb] at hx
      have hx : some (cp o y z) = some x := hx
      cases hx
      exact cp01 o y z
theorem Bs_ar {o : Int} {a b : Dn} : Bs (arD o a b) := fun e x he hx => by
  unfold arD at hx
  cases ha : a e with
  | none => rw [ha] at hx; cases hx
  | some y =>
    cases hb : b e with
    | none => rw [ha, hb] at hx; cases hx
    | some z => rw [ha, hb] at hx; exact ar_b hx
def Bd (h : Nat) (D : Dn) : Prop := (h ≤ 5 ∨ h = 11 → Bt D) ∧ (6 ≤ h ∧ h ≤ 10 → Bs D)
theorem PP_bd {cd vl : Nat → Int} {o : Bool} {T : Nat} (h0 : cd T = 0) (hv : ∀ i, i ≤ T → 0 ≤ vl i) : ∀ (F h d p l : Nat) (a : Dn) (q : Bool) (p1 l1 : Nat) (D : Dn), h ≤ 11 → PP cd vl o F h d p l a q = some (.inr (p1, l1, D)) → p ≤ T → l ≤ 50 → (h = 1 ∨ h = 3 → Bt a) → (h = 7 ∨ h = 9 → Bs a) → Bd h D := by
  intro F
  induction F with
  | zero => intro h d p l a q p1 l1 D _ hh; cases hh
  | succ F ih =>
    intro h d p l a q p1 l1 D h11 hh hp hl hT hS
    have two : ∀ (h1 h2 p2 : Nat) (f : Dn → Dn), h1 ≤ 11 → h2 ≤ 11 → p2 ≤ T → thn (PP cd vl o F h1 d p2 l a false) (fun p3 l3 v => PP cd vl o F h2 d p3 l3 (f v) false) = some (.inr (p1, l1, D)) → (h1 = 1 ∨ h1 = 3 → Bt a) → (h1 = 7 ∨ h1 = 9 → Bs a) → (∀ v, Bd h1 v → (h2 = 1 ∨ h2 = 3 → Bt (f v)) ∧ (h2 = 7 ∨ h2 = 9 → Bs (f v))) → Bd h2 D := by
      intro h1 h2 p2 f u1 u2 e2 e t1 t2 hf
      rcases thn_inv e with ⟨x, q1, q2⟩ | ⟨p3, l3, v, q1, q2⟩
      · cases q2
      · have b1 := PP_in h0 _ _ _ _ _ _ _ _ u1 q1 e2 hl
        have b2 := hf v (ih h1 d p2 l a false p3 l3 v u1 q1 e2 hl t1 t2)
        exact ih h2 d p3 l3 (f v) false p1 l1 D u2 q2 b1.2.1 b1.2.2.2 b2.1 b2.2
    match h, h11, hh, hT, hS with
    | 0, _, hh, _, _ =>
      rw [PP0] at hh
      have := two 2 1 p id (by decide) (by decide) hp hh (fun z => absurd z (by decide)) (fun z => absurd z (by decide)) (fun v hv => ⟨fun _ => hv.1 (by decide), (fun z => absurd z (by decide))⟩)
      exact ⟨fun _ => this.1 (by decide), (fun z => absurd z (by decide))⟩
    | 1, _, hh, hT, _ =>
      rw [PP1] at hh
      split at hh
      · rename_i c
        exact two 2 1 (p + 1) (orD a) (by decide) (by decide) (tk_lt h0 hp (by omega)) hh (fun z => absurd z (by decide)) (fun z => absurd z (by decide)) (fun v hv => ⟨fun _ => Bt_or (hv.1 (by decide)), (fun z => absurd z (by decide))⟩)
      · cases hh; exact ⟨fun _ => hT (by decide), (fun z => absurd z (by decide))⟩
    | 2, _, hh, _, _ =>
      rw [PP2] at hh
      have := two 4 3 p id (by decide) (by decide) hp hh (fun z => absurd z (by decide)) (fun z => absurd z (by decide)) (fun v hv => ⟨fun _ => hv.1 (by decide), (fun z => absurd z (by decide))⟩)
      exact ⟨fun _ => this.1 (by decide), (fun z => absurd z (by decide))⟩
    | 3, _, hh, hT, _ =>
      rw [PP3] at hh
      split at hh
      · rename_i c
        exact two 4 3 (p + 1) (andD a) (by decide) (by decide) (tk_lt h0 hp (by omega)) hh (fun z => absurd z (by decide)) (fun z => absurd z (by decide)) (fun v hv => ⟨fun _ => Bt_and (hv.1 (by decide)), (fun z => absurd z (by decide))⟩)
      · cases hh; exact ⟨fun _ => hT (by decide), (fun z => absurd z (by decide))⟩
    | 4, _, hh, _, _ =>
      rw [PP4] at hh
      have := ih 5 d p l a false p1 l1 D (by decide) hh hp hl (fun z => absurd z (by decide)) (fun z => absurd z (by decide))
      exact ⟨fun _ => this.1 (by decide), (fun z => absurd z (by decide))⟩
    | 5, _, hh, _, _ =>
      rw [PP5] at hh
      split at hh
      · rename_i c
        exact ih 5 d (p + 1) l a (!q) p1 l1 D (by decide) hh (tk_lt h0 hp (by omega)) hl (fun z => absurd z (by decide)) (fun z => absurd z (by decide))
      · have := ih 11 d p l a q p1 l1 D (by decide) hh hp hl (fun z => absurd z (by decide)) (fun z => absurd z (by decide))
        exact ⟨fun _ => this.1 (by decide), (fun z => absurd z (by decide))⟩
    | 6, _, hh, _, _ =>
      rw [PP6] at hh
      have := two 8 7 p id (by decide) (by decide) hp hh (fun z => absurd z (by decide)) (fun z => absurd z (by decide)) (fun v hv => ⟨(fun z => absurd z (by decide)), fun _ => hv.2 (by decide)⟩)
      exact ⟨(fun z => absurd z (by decide)), fun _ => this.2 (by decide)⟩
    | 7, _, hh, _, hS =>
      rw [PP7] at hh
      split at hh
      · rename_i c
        exact two 8 7 (p + 1) (arD (cd p) a) (by decide) (by decide) (tk_lt h0 hp (by omega)) hh (fun z => absurd z (by decide)) (fun z => absurd z (by decide)) (fun v hv => ⟨(fun z => absurd z (by decide)), fun _ => Bs_ar⟩)
      · cases hh; exact ⟨(fun z => absurd z (by decide)), fun _ => hS (by decide)⟩
    | 8, _, hh, _, _ =>
      rw [PP8] at hh
      have := two 10 9 p id (by decide) (by decide) hp hh (fun z => absurd z (by decide)) (fun z => absurd z (by decide)) (fun v hv => ⟨(fun z => absurd z (by decide)), fun _ => hv.2 (by decide)⟩)
      exact ⟨(fun z => absurd z (by decide)), fun _ => this.2 (by decide)⟩
    | 9, _, hh, _, hS =>
      rw [PP9] at hh
      split at hh
      · rename_i c
        exact two 10 9 (p + 1) (arD (cd p) a) (by decide) (by decide) (tk_lt h0 hp (by omega)) hh (fun z => absurd z (by decide)) (fun z => absurd z (by decide)) (fun v hv => ⟨(fun z => absurd z (by decide)), fun _ => Bs_ar⟩)
      · cases hh; exact ⟨(fun z => absurd z (by decide)), fun _ => hS (by decide)⟩
    | 10, _, hh, _, _ =>
      refine ⟨(fun z => absurd z (by decide)), fun _ => ?_⟩
      rw [PP10] at hh
      split at hh
      · rename_i c
        split at hh
        · cases hh
        rcases thn_inv hh with ⟨x, q1, q2⟩ | ⟨p3, l3, v, q1, q2⟩
        · cases q2
        have := (ih 6 (d + 1) (p + 1) l a false p3 l3 v (by decide) q1 (tk_lt h0 hp (by omega)) hl (fun z => absurd z (by decide)) (fun z => absurd z (by decide))).2 (by decide)
        split at q2
        · cases q2; exact this
        · cases q2
      split at hh
      · rename_i c
        split at hh
        · cases hh
        have kw : ∀ (k1 k2 : Int), Bs (wD k1 k2) := fun k1 k2 e x he hx => by cases hx; exact he k1 k2
        split at hh
        · split at hh
          · cases hh; exact kw _ _
          · cases hh
        · cases hh
          split
          · intro e x he hx
            cases hx
            have := hv p hp
            have := wlo_b o
            have := whi_b o
            omega
          · exact kw _ _
      · cases hh
    | 11, _, hh, _, _ =>
      refine ⟨fun _ => ?_, (fun z => absurd z (by decide))⟩
      rw [PP11] at hh
      split at hh
      · rename_i c
        split at hh
        · cases hh
        rcases thn_inv hh with ⟨x, q1, q2⟩ | ⟨p3, l3, v, q1, q2⟩
        · cases q2
        have := (ih 0 (d + 1) (p + 1) l a false p3 l3 v (by decide) q1 (tk_lt h0 hp (by omega)) hl (fun z => absurd z (by decide)) (fun z => absurd z (by decide))).1 (by decide)
        split at q2
        · cases q2
          split
          · exact Bt_not this
          · exact this
        · cases q2
      · rcases thn_inv hh with ⟨x, q1, q2⟩ | ⟨p3, l3, v, q1, q2⟩
        · cases q2
        split at q2
        · rcases thn_inv q2 with ⟨x, q3, q4⟩ | ⟨p4, l4, v4, q3, q4⟩
          · cases q4
          cases q4
          split
          · exact Bt_not Bt_cp
          · exact Bt_cp
        · cases q2
    | h + 12, hx, _, _, _ => exact absurd hx (by omega)
/-- the class's token of a code; its number -/
def TV (c t : Int) : Prop := (7 ≤ c ∧ c ≤ 17 ∧ t = c - 7) ∨ (c = 0 ∧ (t = 22 ∨ t = 24)) ∨ (c = 1 ∧ t = 11) ∨ (c = 2 ∧ t = 12) ∨ (c = 3 ∧ t = 18) ∨ (c = 4 ∧ t = 19) ∨ (c = 5 ∧ t = 20) ∨ (c = 6 ∧ t = 21) ∨ (18 ≤ c ∧ c ≤ 22 ∧ t = c - 5) ∨ (c = 50 ∧ t = 23) ∨ (100 ≤ c ∧ c ≤ 355 ∧ t = c - 75)
def NB (c v n : Int) : Prop := (c = 50 ∧ v ≤ 1000 ∧ n = v) ∨ (c = 50 ∧ 1000 < v ∧ n = 1001) ∨ (c ≠ 50 ∧ n = -1)
theorem TV_b {c t : Int} (h : TV c t) : 0 ≤ t ∧ t ≤ 280 ∧ 0 ≤ c ∧ c ≤ 355 := by unfold TV at h; omega
theorem NB_b {c v n : Int} (h : NB c v n) (h1 : 0 ≤ v) : -1 ≤ n ∧ n ≤ 1001 := by unfold NB at h; omega
/-- tokens in the class's rows -/
def Ct (M : gM) (a : Nat) (cd vl pl tk nb : Nat → Int) (T : Nat) (o : Bool) : Prop := T ≤ 400 ∧ cd T = 0 ∧ (∀ i, i ≤ T → TV (cd i) (tk i) ∧ (tk i = 24 ↔ i = T) ∧ NB (cd i) (vl i) (nb i) ∧ 0 ≤ vl i ∧ vl i ≤ 20000000 ∧ 0 ≤ pl i ∧ pl i ≤ 400 ∧ g_mi M (a + 11) i = iZ (tk i) ∧ g_mi M (a + 13) i = iZ (nb i) ∧ g_mi M (a + 12) i = iZ (pl i)) ∧ g_mi M a 12 = iB o
/-- numbers looked up lie within bounds -/
def LB (M : gM) (a nl : Nat) : Prop := ∀ i, i < nl → 0 ≤ (g_mi M (a + 9) i).toInt ∧ (g_mi M (a + 9) i).toInt ≤ 999
theorem LB.wi {M : gM} {a nl c0 i : Nat} {x : Int32} (hc : c0 ≠ a + 9) (h : LB M a nl) : LB (g_wi M c0 i x) a nl := fun j hj => by
  rw [mi_wi, if_neg (fun q => hc q.1.symm)]
  exact h j hj
/-- where the class is -/
def Cs (M : gM) (a p l nl len : Nat) : Prop := g_mi M a 10 = iZ p ∧ g_mi M a 11 = iZ l ∧ g_mi M a 4 = iZ nl ∧ g_mi M (a + 2) 7 = iZ len ∧ g_mi M a 6 = iZ (-1) ∧ LB M a nl
def Fc (a : Nat) (M M1 : gM) : Prop := ∀ c j, ¬ (c = a ∧ (j = 4 ∨ j = 6 ∨ j = 10 ∨ j = 11)) → ¬ (c = a + 2 ∧ j = 7) → c ≠ a + 7 → c ≠ a + 8 → c ≠ a + 9 → c ≠ a + 10 → g_mi M1 c j = g_mi M c j
theorem Fc.rf {a : Nat} {M : gM} : Fc a M M := fun _ _ _ _ _ _ _ _ => rfl
theorem Fc.tr {a : Nat} {M M1 M2 : gM} (h : Fc a M M1) (h2 : Fc a M1 M2) : Fc a M M2 := fun c j h3 h4 h5 h6 h7 h8 => (h2 c j h3 h4 h5 h6 h7 h8).trans (h c j h3 h4 h5 h6 h7 h8)
theorem Ct.fc {M M1 : gM} {a : Nat} {cd vl pl tk nb : Nat → Int} {T : Nat} {o : Bool} (h : Fc a M M1) (e : Ct M a cd vl pl tk nb T o) : Ct M1 a cd vl pl tk nb T o := by
  refine ⟨e.1, e.2.1, fun i hi => ?_, ?_⟩
  · rw [h _ _ (by omega) (by omega) (by omega) (by omega) (by omega) (by omega), h (a + 13) _ (by omega) (by omega) (by omega) (by omega) (by omega) (by omega), h (a + 12) _ (by omega) (by omega) (by omega) (by omega) (by omega) (by omega)]
    exact e.2.2.1 i hi
  · rw [h _ _ (by omega) (by omega) (by omega) (by omega) (by omega) (by omega)]; exact e.2.2.2
/-- what stood there stays -/
def Lw (a nl len : Nat) (M M1 : gM) : Prop := (∀ j, j < len → g_mi M1 (a + 7) j = g_mi M (a + 7) j ∧ g_mi M1 (a + 8) j = g_mi M (a + 8) j) ∧ ∀ j, j < nl → g_mi M1 (a + 9) j = g_mi M (a + 9) j ∧ g_mi M1 (a + 10) j = g_mi M (a + 10) j
theorem Lw.rf {a nl len : Nat} {M : gM} : Lw a nl len M M := ⟨fun _ _ => ⟨rfl, rfl⟩, fun _ _ => ⟨rfl, rfl⟩⟩
theorem Lw.tr {a nl len nl2 len2 : Nat} {M M1 M2 : gM} (h : Lw a nl len M M1) (h2 : Lw a nl2 len2 M1 M2) (hn : nl ≤ nl2) (hl : len ≤ len2) : Lw a nl len M M2 := ⟨fun j hj => ⟨((h2.1 j (by omega)).1).trans (h.1 j hj).1, ((h2.1 j (by omega)).2).trans (h.1 j hj).2⟩, fun j hj => ⟨((h2.2 j (by omega)).1).trans (h.2 j hj).1, ((h2.2 j (by omega)).2).trans (h.2 j hj).2⟩⟩
/-- words as the class has them -/
def Wo (o : Bool) (ln ld : Nat → Int32) (nl : Nat) (w : Nat → Int32) (e : En) : Prop := Eb e ∧ (o = false → ∀ j : Nat, j < 7 → w j = iZ (e (7 + j) 0)) ∧ (o = true → (∀ j : Nat, 6 ≤ j → j < 10 → w j = iZ (e (7 + j) 0)) ∧ ∀ i, i < nl → w (10 + i) = iZ (e (if ld i = 0 then 17 else 12) (ln i).toInt))
theorem Wo.mono {o : Bool} {ln ld ln2 ld2 : Nat → Int32} {nl nl2 : Nat} (hn : nl ≤ nl2) (h : ∀ i, i < nl → ln2 i = ln i ∧ ld2 i = ld i) (w : Nat → Int32) (e : En) (hw : Wo o ln2 ld2 nl2 w e) : Wo o ln ld nl w e := ⟨hw.1, hw.2.1, fun ho => ⟨(hw.2.2 ho).1, fun i hi => by rw [← (h i hi).1, ← (h i hi).2]; exact (hw.2.2 ho).2 i (by omega)⟩⟩
def Cmm (M : gM) (a o_nl : Nat) (o : Bool) (p q k : Nat) (D : Dn) : Prop := Cm (g_mi M (a + 7)) (g_mi M (a + 8)) p q k (Wo o (g_mi M (a + 9)) (g_mi M (a + 10)) o_nl) D
theorem Cmm.lw {M M1 : gM} {a nl nl1 len : Nat} {o : Bool} {p q k : Nat} {D : Dn} (h : Cmm M a nl o p q k D) (hl : Lw a nl len M M1) (hq : q ≤ len) (hn : nl ≤ nl1) : Cmm M1 a nl1 o p q k D := Cm.cg h (fun i h1 h2 => hl.1 i (by omega)) (Wo.mono hn (fun i hi => hl.2 i hi))
