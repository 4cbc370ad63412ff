/-! The reference's evaluator over tokens that were read: what it tells is what they mean. -/
def Fe (b : Nat) (M M1 : gM) : Prop := ∀ c j, (c ≠ b ∨ (j ≠ 22 ∧ j ≠ 24)) → g_mi M1 c j = g_mi M c j
theorem Fe.rf {b : Nat} {M : gM} : Fe b M M := fun _ _ _ => rfl
theorem Fe.tr {b : Nat} {M M1 M2 : gM} (h : Fe b M M1) (h2 : Fe b M1 M2) : Fe b M M2 := fun c j hc => (h2 c j hc).trans (h c j hc)
theorem Fe.wi {b i : Nat} {M : gM} {x : Int32} (hi : i = 22 ∨ i = 24) : Fe b M (g_wi M b i x) := fun c j hc => by rw [mi_wi, if_neg (by omega)]
/-- where it is; whether it is broken -/
def Gt (M : gM) (b g : Nat) (br : Bool) : Prop := g_mi M b 22 = iZ g ∧ g_mi M b 24 = iB br
theorem Gt.go {M M1 : gM} {b g : Nat} {br : Bool} (h : Gt M b g br) (e : M1 = g_wi M b 22 (g_mi M b 22 + 1)) : Gt M1 b (g + 1) br ∧ Fe b M M1 := by
  subst e
  refine ⟨⟨?_, ?_⟩, Fe.wi (by decide)⟩
  · rw [mi_wi, if_pos ⟨rfl, rfl⟩, h.1, iZ_s1]
  · rw [mi_wi, if_neg (by omega)]; exact h.2
theorem Gt.br {M M1 : gM} {b g : Nat} {br br2 : Bool} (h : Gt M b g br) (e : M1 = g_wi M b 24 (iB br2)) : Gt M1 b g br2 ∧ Fe b M M1 := by
  subst e
  refine ⟨⟨?_, ?_⟩, Fe.wi (by decide)⟩
  · rw [mi_wi, if_neg (by omega)]; exact h.1
  · rw [mi_wi, if_pos ⟨rfl, rfl⟩]
/-- a word that may stand with a number k behind it -/
def okW (c k : Int) : Prop := (c = 12 ∧ 0 ≤ k ∧ k ≤ 59) ∨ (c = 17 ∧ 0 ≤ k ∧ k ≤ 999) ∨ (13 ≤ c ∧ c ≤ 16 ∧ k = 0)
def Eb (e : En) : Prop := ∀ c k, -1000000000 ≤ e c k ∧ e c k ≤ 1000000000
/-- the text at base in the reference's row, and what words tell -/
def Eo (N b base T : Nat) (cd vl : Nat → Int) (o : Bool) (e : En) (M0 : gM) : Prop := T ≤ 400 ∧ base ≤ 2400 ∧ cd T = 0 ∧ g_mi M0 b 23 = iZ ((base + T : Nat) : Int) ∧ g_mi M0 b 25 = iB o ∧ (∀ i, i < T → g_mi M0 (b + 2) (212 + (base + i)) = iZ (cd i) ∧ g_mi M0 (b + 2) (3012 + (base + i)) = iZ (vl i) ∧ 0 ≤ cd i ∧ cd i ≤ 355 ∧ 0 ≤ vl i ∧ vl i ≤ 20000000) ∧ (o = false → ∀ j : Nat, j < 7 → g_mi M0 (b + 12) j = iZ (e (7 + j) 0)) ∧ (o = true → ∀ (c k : Int) (R : Int32 → Prop) (M : gM), Fe b M0 M → okW c k → R (iZ (e c k)) → pX9_orderValue N 0 M b (iZ c) (iZ k) R) ∧ Eb e
section ME
variable {N K b base T : Nat} {cd vl : Nat → Int} {o : Bool} {e : En} {M0 M : gM} {p l : Nat} {br lv : Bool}
theorem cdr (h : Eo N b base T cd vl o e M0) (hp : p ≤ T) : 0 ≤ cd p ∧ cd p ≤ 355 := by
  rcases Nat.lt_or_ge p T with q | q
  · have := h.2.2.2.2.2.1 p q; omega
  · have e1 : p = T := by omega
    rw [e1, h.2.2.1]; omega
theorem codeAt_ok (h : Eo N b base T cd vl o e M0) (f : Fe b M0 M) (hg : Gt M b (base + p) br) (hp : p ≤ T) : EX9_codeAt M b (g_mi M b 22) ∧ fX9_codeAt M b (g_mi M b 22) = iZ (cd p) := by
  obtain ⟨h1, h2, h3, h4, h5, h6, _⟩ := h
  unfold EX9_codeAt fX9_codeAt
  rw [hg.1, f _ _ (Or.inr (by decide)), h4]
  have cc : (iZ ((base + T : Nat) : Int) ≤ iZ ((base + p : Nat) : Int)) = (T ≤ p) := by
    rw [iZ_le (by omega) (by omega) (by omega) (by omega)]; exact propext ⟨fun _ => by omega, fun _ => by omega⟩
  rcases Nat.lt_or_ge p T with q | q
  · rw [if_neg (by rw [cc]; omega), show (212 : Int32) = iZ ((212 : Nat) : Int) from rfl, iZ_add]
    refine ⟨fun _ => iZ_in (by omega) (by omega) (by omega), ?_⟩
    rw [iZ_nat (by omega) (by omega), show (((212 : Nat) : Int) + ((base + p : Nat) : Int)).toNat = 212 + (base + p) by omega, f _ _ (Or.inl (by omega))]
    exact (h6 p q).1
  · have e1 : p = T := by omega
    rw [if_pos (by rw [cc]; omega), e1, h3]
    exact ⟨fun q => absurd (Int32.le_refl _) q, rfl⟩
theorem passes_ok {R : Int32 → gM → Prop} {c : Int} (h : Eo N b base T cd vl o e M0) (f : Fe b M0 M) (hg : Gt M b (base + p) br) (hp : p ≤ T) (c1 : 0 ≤ c) (c2 : c ≤ 1000) (hy : cd p = c → ∀ M1, Fe b M M1 → Gt M1 b (base + (p + 1)) br → R 1 M1) (hn : cd p ≠ c → R 0 M) : pX9_passes0 N K M b (iZ c) R := by
  obtain ⟨q1, q2⟩ := codeAt_ok h f hg hp
  have q3 := cdr h hp
  unfold pX9_passes0
  refine ⟨q1, fun v1 hv => ?_⟩
  rw [q2] at hv
  subst hv
  rw [iZ_eq (by omega) (by omega) (by omega) (by omega)]
  exact ⟨fun q => hn q, fun q M1 hM => hy q M1 (hg.go hM).2 (hg.go hM).1⟩
theorem bnd_dead {R : Int64 → gM → Prop} {y : Int64} {g : Nat} (hg : Gt M b g br) (hd : lv = false ∨ br = true) (hR : ∀ w M1, Fe b M M1 → Gt M1 b g br → R w M1) : pX9_bounded N K M b y (iB lv) R := by
  have set1 : ∀ M1, M1 = g_wi M b 24 1 → br = true → Gt M1 b g br ∧ Fe b M M1 := fun M1 e1 hb => by
    subst hb; exact hg.br (br2 := true) e1
  have r0 := fun w => hR w M Fe.rf hg
  unfold pX9_bounded
  refine ⟨fun _ => ⟨fun _ => r0 _, fun _ => r0 _⟩, fun q => ?_⟩
  have hb : br = true := by
    rcases hd with hd | hd
    · subst hd; exact absurd rfl q
    · exact hd
  exact ⟨fun _ M1 e1 => ⟨fun _ => hR _ M1 (set1 M1 e1 hb).2 (set1 M1 e1 hb).1, fun _ => hR _ M1 (set1 M1 e1 hb).2 (set1 M1 e1 hb).1⟩, fun _ => ⟨fun _ => ⟨fun _ => r0 _, fun _ => r0 _⟩, fun _ M1 e1 => ⟨fun _ => hR _ M1 (set1 M1 e1 hb).2 (set1 M1 e1 hb).1, fun _ => hR _ M1 (set1 M1 e1 hb).2 (set1 M1 e1 hb).1⟩⟩⟩
theorem bnd_live {R : Int64 → gM → Prop} {x : Int} {g : Nat} (hg : Gt M b g false) (x1 : -2000000000000000000 ≤ x) (x2 : x ≤ 2000000000000000000) (hy : -1000000000 ≤ x ∧ x ≤ 1000000000 → R (iL x) M) (hn : ¬ (-1000000000 ≤ x ∧ x ≤ 1000000000) → ∀ M1, Fe b M M1 → Gt M1 b g true → R 0 M1) : pX9_bounded N K M b (iL x) (iB true) R := by
  have set1 : ∀ M1, M1 = g_wi M b 24 1 → Gt M1 b g true ∧ Fe b M M1 := fun M1 e1 => hg.br (br2 := true) e1
  unfold pX9_bounded
  rw [lg_cmp_gt, lg_cmp_ge, show (1000000000 : Int64) = iL 1000000000 from rfl, show (-iL 1000000000 : Int64) = iL (-1000000000) from rfl, iL_lt (by omega) (by omega) (by omega) (by omega), iL_le (by omega) (by omega) (by omega) (by omega), hg.2]
  refine ⟨fun q => absurd q (by decide), fun _ => ⟨fun q M1 e1 => ?_, fun q => ⟨fun q2 => ⟨fun _ => hy (by omega), fun q3 => absurd rfl q3⟩, fun q2 M1 e1 => ?_⟩⟩⟩
  · have s := set1 M1 e1
    rw [s.1.2]
    exact ⟨fun q => absurd q (by decide), fun _ => hn (by omega) M1 s.2 s.1⟩
  · have s := set1 M1 e1
    rw [s.1.2]
    exact ⟨fun q => absurd q (by decide), fun _ => hn (by omega) M1 s.2 s.1⟩
end ME
/-- what is known behind a piece: its value if it lives, that it is broken -/
def Ep (lv br : Bool) (D : Option Int) (V : Int → Prop) (br2 : Bool) : Prop := (lv = true → br = false → (∀ x, D = some x → V x ∧ br2 = false) ∧ (D = none → br2 = true)) ∧ (lv = false ∨ br = true → br2 = br)
theorem Ep.comb {lv br br1 br2 : Bool} {D1 D : Option Int} {V1 V : Int → Prop} (h1 : Ep lv br D1 V1 br1) (h2 : Ep lv br1 D V br2) (hs : D1 = none → D = none) : Ep lv br D V br2 := by
  refine ⟨fun l b => ?_, fun q => ?_⟩
  · cases D1 with
    | none =>
      have b1 := (h1.1 l b).2 rfl
      have e := hs rfl
      refine ⟨fun x hx => ?_, fun _ => (h2.2 (Or.inr b1)).trans b1⟩
      rw [e] at hx; cases hx
    | some x =>
      have b1 := ((h1.1 l b).1 x rfl).2
      exact h2.1 l b1
  · have b1 := h1.2 q
    have : lv = false ∨ br1 = true := by
      rcases q with q | q
      · exact Or.inl q
      · exact Or.inr (b1.trans q)
    exact (h2.2 this).trans b1
theorem Ep.dead {lv br : Bool} {D : Option Int} {V : Int → Prop} (h : lv = false ∨ br = true) : Ep lv br D V br := ⟨fun l b => by rcases h with h | h <;> simp_all, fun _ => rfl⟩
theorem Ep_some {x : Int} {V : Int → Prop} (h : V x) : Ep true false (some x) V false := ⟨fun _ _ => ⟨fun y hy => (by cases hy; exact ⟨h, rfl⟩), fun q => (by cases q)⟩, fun q => by rcases q with q | q <;> cases q⟩
theorem Ep_none {V : Int → Prop} : Ep true false none V true := ⟨fun _ _ => ⟨fun y hy => (by cases hy), fun _ => rfl⟩, fun q => by rcases q with q | q <;> cases q⟩
def Vt1 (v : Int32) (x : Int) : Prop := v = iZ x ∧ (x = 0 ∨ x = 1)
def Vs1 (w : Int64) (x : Int) : Prop := w = iL x ∧ -1000000000 ≤ x ∧ x ≤ 1000000000
def Pq (h : Nat) (lv br : Bool) (D : Option Int) (v : Int32) (w : Int64) (br2 : Bool) : Prop := if h ≤ 5 ∨ h = 11 then (v = 0 ∨ v = 1) ∧ Ep lv br D (Vt1 v) br2 else Ep lv br D (Vs1 w) br2
def Pi1 (h : Nat) (lv br : Bool) (ae : Option Int) (q : Bool) (x2 : Int32) (y2 : Int64) : Prop := (h = 1 ∨ h = 3 → (x2 = 0 ∨ x2 = 1) ∧ (lv = true → br = false → ∃ x, ae = some x ∧ Vt1 x2 x)) ∧ (h = 5 → x2 = iB q) ∧ (h = 7 ∨ h = 9 → lv = true → br = false → ∃ x, ae = some x ∧ Vs1 y2 x)
def enn (h : Nat) : Nat := if h = 11 then 6 else if h = 6 then 7 else if h = 7 then 8 else if h = 8 then 9 else if h = 9 then 10 else if h = 10 then 11 else h
def EVs (N b base T : Nat) (cd vl : Nat → Int) (o : Bool) (e : En) (M0 : gM) (F : Nat) : Prop := ∀ (h d p l : Nat) (a : Dn) (q : Bool) (p1 l1 : Nat) (D : Dn), h ≤ 11 → (h = 11 → q = false) → PP cd vl o F h d p l a q = some (.inr (p1, l1, D)) → ∀ (n : Nat) (M : gM) (R : Int32 → Int64 → gM → Prop) (lv br : Bool) (x2 : Int32) (y2 : Int64), F + 4 ≤ n → Fe b M0 M → Gt M b (base + p) br → p ≤ T → l ≤ 50 → Pi1 h lv br (a e) q x2 y2 → (∀ M1 v w br2, Fe b M M1 → Gt M1 b (base + p1) br2 → Pq h lv br (D e) v w br2 → R v w M1) → qgME N n (enn h) M b (iB lv) x2 y2 R
/-- a loop never mends what is broken -/
theorem PP_str {cd vl : Nat → Int} {o : Bool} {e : En} : ∀ (F h d p l : Nat) (a : Dn) (p1 l1 : Nat) (D : Dn), (h = 1 ∨ h = 3 ∨ h = 7 ∨ h = 9) → PP cd vl o F h d p l a false = some (.inr (p1, l1, D)) → a e = none → D e = none := by
  intro F
  induction F with
  | zero => intro h d p l a p1 l1 D _ hh; cases hh
  | succ F ih =>
    intro h d p l a p1 l1 D hx hh ha
    have stay : some (Sum.inr (p, l, a)) = (some (.inr (p1, l1, D)) : Option Pr) → D e = none := fun q => by cases q; exact ha
    rcases hx with hx | hx | hx | hx <;> subst hx
    · rw [PP1] at hh
      split at hh
      · rcases thn_inv hh with ⟨x, q1, q2⟩ | ⟨p2, l2, v, q1, q2⟩
        · cases q2
        · exact ih 1 _ _ _ _ _ _ _ (Or.inl rfl) q2 (by simp [orD, ha])
      · exact stay hh
    · rw [PP3] at hh
      split at hh
      · rcases thn_inv hh with ⟨x, q1, q2⟩ | ⟨p2, l2, v, q1, q2⟩
        · cases q2
        · exact ih 3 _ _ _ _ _ _ _ (Or.inr (Or.inl rfl)) q2 (by simp [andD, ha])
      · exact stay hh
    · rw [PP7] at hh
      split at hh
      · rcases thn_inv hh with ⟨x, q1, q2⟩ | ⟨p2, l2, v, q1, q2⟩
        · cases q2
        · exact ih 7 _ _ _ _ _ _ _ (Or.inr (Or.inr (Or.inl rfl))) q2 (by simp [arD, ha])
      · exact stay hh
    · rw [PP9] at hh
      split at hh
      · rcases thn_inv hh with ⟨x, q1, q2⟩ | ⟨p2, l2, v, q1, q2⟩
        · cases q2
        · exact ih 9 _ _ _ _ _ _ _ (Or.inr (Or.inr (Or.inr rfl))) q2 (by simp [arD, ha])
      · exact stay hh
/-- the nots stand outside -/
theorem PP11_q {cd vl : Nat → Int} {o : Bool} {F d p l : Nat} {a : Dn} {q : Bool} {p1 l1 : Nat} {D : Dn} (h : PP cd vl o F 11 d p l a q = some (.inr (p1, l1, D))) : ∃ D0, PP cd vl o F 11 d p l a false = some (.inr (p1, l1, D0)) ∧ D = if q then notD D0 else D0 := by
  cases F with
  | zero => cases h
  | succ F =>
    rw [PP11] at h ⊢
    split at h
    · rename_i c
      rw [if_pos c]
      split at h
      · cases h
      · rename_i c2
        rw [if_neg c2]
        rcases thn_inv h with ⟨x, q1, q2⟩ | ⟨p2, l2, v, q1, q2⟩
        · cases q2
        · rw [q1]
          show ∃ D0, (if cd p2 = 141 then some (Sum.inr (p2 + 1, l2, if false = true then notD v else v)) else some (Sum.inl p2)) = some (Sum.inr (p1, l1, D0)) ∧ _
          split at q2
          · rename_i c3; cases q2
            rw [if_pos c3]
            exact ⟨v, rfl, rfl⟩
          · cases q2
    · rename_i c
      rw [if_neg c]
      rcases thn_inv h with ⟨x, q1, q2⟩ | ⟨p2, l2, v, q1, q2⟩
      · cases q2
      · rw [q1]
        show ∃ D0, (if cd p2 = 160 ∨ cd p2 = 162 ∨ cd p2 = 161 then thn (PP cd vl o F 6 d (p2 + 1) l2 a false) (fun p2_1 l2_1 v2 => some (Sum.inr (p2_1, l2_1, if false = true then notD (cpD (cd p2) v v2) else cpD (cd p2) v v2))) else some (Sum.inl p2)) = some (Sum.inr (p1, l1, D0)) ∧ _
        split at q2
        · rename_i c3
          rw [if_pos c3]
          rcases thn_inv q2 with ⟨x, q3, q4⟩ | ⟨p3, l3, v3, q3, q4⟩
          · cases q4
          · rw [q3]
            cases q4
            exact ⟨cpD (cd p2) v v3, rfl, rfl⟩
        · cases q2
