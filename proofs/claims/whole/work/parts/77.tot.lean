/-! It ends: so many turns are enough. -/
def rnk (h : Nat) : Nat := if h = 0 then 8 else if h = 1 then 7 else if h = 2 then 7 else if h = 3 then 6 else if h = 4 then 6 else if h = 5 then 5 else if h = 11 then 4 else if h = 6 then 3 else if h = 7 then 2 else if h = 8 then 2 else 1
theorem thn_tot {r : Option Pr} {k : Nat → Nat → Dn → Option Pr} (h1 : r ≠ none) (h2 : ∀ p l v, r = some (.inr (p, l, v)) → k p l v ≠ none) : thn r k ≠ none := by
  cases r with
  | none => exact absurd rfl h1
  | some x =>
    cases x with
    | inl e => simp [thn]
    | inr y => exact h2 y.1 y.2.1 y.2.2 rfl
theorem PP_tot {cd vl : Nat → Int} {o : Bool} {T : Nat} (h0 : cd T = 0) : ∀ (F h d p l : Nat) (a : Dn) (q : Bool), h ≤ 11 → p ≤ T → l ≤ 50 → d ≤ 8 → (T - p) + 8 * (8 - d) + rnk h ≤ F → PP cd vl o F h d p l a q ≠ none := by
  intro F
  induction F with
  | zero =>
    intro h d p l a q h11 hp hl hd hF
    have : 1 ≤ rnk h := by
      unfold rnk
      repeat' split
      all_goals decide
    omega
  | succ F ih =>
    intro h d p l a q h11 hp hl hd hF
    have two : ∀ (h1 h2 p1 : Nat) (f : Dn → Dn), h1 ≤ 11 → h2 ≤ 11 → p ≤ p1 → p1 ≤ T → (T - p1) + rnk h1 + 1 ≤ (T - p) + rnk h → (T - p1) + rnk h2 + 1 ≤ (T - p) + rnk h → thn (PP cd vl o F h1 d p1 l a false) (fun p2 l2 v => PP cd vl o F h2 d p2 l2 (f v) false) ≠ none := by
      intro h1 h2 p1 f u1 u2 e1 e2 e3 e4
      refine thn_tot (ih h1 d p1 l a false u1 e2 hl hd (by omega)) (fun p2 l2 v e => ?_)
      have hx := PP_in h0 _ _ _ _ _ _ _ _ u1 e e2 hl
      have h1 : p1 ≤ p2 := hx.1
      exact ih h2 d p2 l2 (f v) false u2 hx.2.1 hx.2.2.2 hd (by omega)
    match h, h11, hF, two with
    | 0, _, hF, two => rw [PP0]; exact two 2 1 p id (by decide) (by decide) (Nat.le_refl _) hp (by show _ + 7 + 1 ≤ _ + 8; omega) (by show _ + 7 + 1 ≤ _ + 8; omega)
    | 1, _, hF, two =>
      rw [PP1]
      split
      · rename_i c
        have pp := tk_lt h0 hp (by omega)
        exact two 2 1 (p + 1) (orD a) (by decide) (by decide) (by omega) pp (by show _ + 7 + 1 ≤ _ + 7; omega) (by show _ + 7 + 1 ≤ _ + 7; omega)
      · simp
    | 2, _, hF, two => rw [PP2]; exact two 4 3 p id (by decide) (by decide) (Nat.le_refl _) hp (by show _ + 6 + 1 ≤ _ + 7; omega) (by show _ + 6 + 1 ≤ _ + 7; omega)
    | 3, _, hF, two =>
      rw [PP3]
      split
      · rename_i c
        have pp := tk_lt h0 hp (by omega)
        exact two 4 3 (p + 1) (andD a) (by decide) (by decide) (by omega) pp (by show _ + 6 + 1 ≤ _ + 6; omega) (by show _ + 6 + 1 ≤ _ + 6; omega)
      · simp
    | 4, _, hF, two =>
      rw [PP4]
      exact ih 5 d p l a false (by decide) hp hl hd (by have : rnk 4 = 6 := rfl; have : rnk 5 = 5 := rfl; omega)
    | 5, _, hF, two =>
      have e5 : rnk 5 = 5 := rfl
      have e11 : rnk 11 = 4 := rfl
      rw [PP5]
      split
      · rename_i c
        have pp := tk_lt h0 hp (by omega)
        exact ih 5 d (p + 1) l a (!q) (by decide) pp hl hd (by omega)
      · exact ih 11 d p l a q (by decide) hp hl hd (by omega)
    | 6, _, hF, two => rw [PP6]; exact two 8 7 p id (by decide) (by decide) (Nat.le_refl _) hp (by show _ + 2 + 1 ≤ _ + 3; omega) (by show _ + 2 + 1 ≤ _ + 3; omega)
    | 7, _, hF, two =>
      rw [PP7]
      split
      · rename_i c
        have pp := tk_lt h0 hp (by omega)
        exact two 8 7 (p + 1) (arD (cd p) a) (by decide) (by decide) (by omega) pp (by show _ + 2 + 1 ≤ _ + 2; omega) (by show _ + 2 + 1 ≤ _ + 2; omega)
      · simp
    | 8, _, hF, two => rw [PP8]; exact two 10 9 p id (by decide) (by decide) (Nat.le_refl _) hp (by show _ + 1 + 1 ≤ _ + 2; omega) (by show _ + 1 + 1 ≤ _ + 2; omega)
    | 9, _, hF, two =>
      rw [PP9]
      split
      · rename_i c
        have pp := tk_lt h0 hp (by omega)
        exact two 10 9 (p + 1) (arD (cd p) a) (by decide) (by decide) (by omega) pp (by show _ + 1 + 1 ≤ _ + 1; omega) (by show _ + 1 + 1 ≤ _ + 1; omega)
      · simp
    | 10, _, hF, two =>
      have e10 : rnk 10 = 1 := rfl
      have e6 : rnk 6 = 3 := rfl
      rw [PP10]
      split
      · rename_i c
        have pp := tk_lt h0 hp (by omega)
        split
        · simp
        · exact thn_tot (ih 6 (d + 1) (p + 1) l a false (by decide) pp hl (by omega) (by omega)) (fun p2 l2 v e => by split <;> simp)
      · split
        · split
          · simp
          · split
            · split <;> simp
            · simp
        · simp
    | 11, _, hF, two =>
      have e11 : rnk 11 = 4 := rfl
      have e6 : rnk 6 = 3 := rfl
      have e0 : rnk 0 = 8 := rfl
      rw [PP11]
      split
      · rename_i c
        have pp := tk_lt h0 hp (by omega)
        split
        · simp
        · exact thn_tot (ih 0 (d + 1) (p + 1) l a false (by decide) pp hl (by omega) (by omega)) (fun p2 l2 v e => by split <;> simp)
      · refine thn_tot (ih 6 d p l a false (by decide) hp hl hd (by omega)) (fun p2 l2 v e => ?_)
        have hx := PP_in h0 _ _ _ _ _ _ _ _ (by decide) e hp hl
        have h1 : p ≤ p2 := hx.1
        have h2 : p2 ≤ T := hx.2.1
        split
        · rename_i c
          have pp := tk_lt (p := p2) h0 h2 (by omega)
          exact thn_tot (ih 6 d (p2 + 1) l2 a false (by decide) pp hx.2.2.2 hd (by omega)) (fun p3 l3 v3 e3 => by simp)
        · simp
    | h + 12, hx, _, _ => exact absurd hx (by omega)
