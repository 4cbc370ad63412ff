/-! The two languages: what a text means, how it is read (abstractly: tokens by the reference's codes). -/
abbrev En := Int → Int → Int
abbrev Dn := En → Option Int
abbrev Pr := Nat ⊕ (Nat × Nat × Dn)
def kD (v : Int) : Dn := fun _ => some v
def wD (c k : Int) : Dn := fun e => some (e c k)
def notD (a : Dn) : Dn := fun e => (a e).bind fun x => some (1 - x)
def orD (a b : Dn) : Dn := fun e => (a e).bind fun x => if x = 1 then some 1 else b e
def andD (a b : Dn) : Dn := fun e => (a e).bind fun x => if x = 0 then some 0 else b e
def bdd (v : Int) : Option Int := if -1000000000 ≤ v ∧ v ≤ 1000000000 then some v else none
def ar (o x y : Int) : Option Int := if o = 143 then bdd (x + y) else if o = 145 then bdd (x - y) else if o = 142 then bdd (x * y) else if y = 0 then none else if o = 147 then bdd (x.tdiv y) else bdd (x.tmod y)
def arD (o : Int) (a b : Dn) : Dn := fun e => (a e).bind fun x => (b e).bind fun y => ar o x y
def cp (o x y : Int) : Int := if o = 160 then (if x < y then 1 else 0) else if o = 162 then (if y < x then 1 else 0) else if x = y then 1 else 0
theorem cp01 (o x y : Int) : cp o x y = 0 ∨ cp o x y = 1 := by
  unfold cp; split
  · split <;> simp
  · split
    · split <;> simp
    · split <;> simp
def cpD (o : Int) (a b : Dn) : Dn := fun e => (a e).bind fun x => (b e).bind fun y => some (cp o x y)
def wlo (o : Bool) : Int := if o then 12 else 7
def whi (o : Bool) : Int := if o then 17 else 13
def lkm (c : Int) : Int := if c = 12 then 59 else 999
theorem wlo_b (o : Bool) : 7 ≤ wlo o ∧ wlo o ≤ 12 := by cases o <;> decide
theorem whi_b (o : Bool) : 13 ≤ whi o ∧ whi o ≤ 17 := by cases o <;> decide
/-- a fault ends it; else what comes then -/
def thn (r : Option Pr) (k : Nat → Nat → Dn → Option Pr) : Option Pr := r.bind fun x => match x with
  | .inl e => some (.inl e)
  | .inr y => k y.1 y.2.1 y.2.2
theorem thn_inv {r : Option Pr} {k : Nat → Nat → Dn → Option Pr} {res : Pr} (h : thn r k = some res) : (∃ e, r = some (.inl e) ∧ res = .inl e) ∨ ∃ p l v, r = some (.inr (p, l, v)) ∧ k p l v = some res := by
  cases r with
  | none => simp [thn] at h
  | some x =>
    cases x with
    | inl e => exact Or.inl ⟨e, rfl, by simpa [thn] using h.symm⟩
    | inr y => exact Or.inr ⟨y.1, y.2.1, y.2.2, rfl, h⟩
/-- the reading: nodes as the reference's: 0 test, 1 its loop, 2 both, 3 its loop, 4 plain, 5 its nots, 6 sum, 7 its loop, 8 term, 9 its loop, 10 part, 11 what is behind the nots -/
def PP (cd vl : Nat → Int) (o : Bool) : Nat → Nat → Nat → Nat → Nat → Dn → Bool → Option Pr
  | 0, _, _, _, _, _, _ => none
  | F + 1, h, d, p, l, a, q =>
    if h = 0 then thn (PP cd vl o F 2 d p l a false) fun p1 l1 v => PP cd vl o F 1 d p1 l1 v false
    else if h = 1 then (if cd p = 4 then thn (PP cd vl o F 2 d (p + 1) l a false) fun p1 l1 v => PP cd vl o F 1 d p1 l1 (orD a v) false else some (.inr (p, l, a)))
    else if h = 2 then thn (PP cd vl o F 4 d p l a false) fun p1 l1 v => PP cd vl o F 3 d p1 l1 v false
    else if h = 3 then (if cd p = 5 then thn (PP cd vl o F 4 d (p + 1) l a false) fun p1 l1 v => PP cd vl o F 3 d p1 l1 (andD a v) false else some (.inr (p, l, a)))
    else if h = 4 then PP cd vl o F 5 d p l a false
    else if h = 5 then (if cd p = 6 then PP cd vl o F 5 d (p + 1) l a (!q) else PP cd vl o F 11 d p l a q)
    else if h = 6 then thn (PP cd vl o F 8 d p l a false) fun p1 l1 v => PP cd vl o F 7 d p1 l1 v false
    else if h = 7 then (if cd p = 143 ∨ cd p = 145 then thn (PP cd vl o F 8 d (p + 1) l a false) fun p1 l1 v => PP cd vl o F 7 d p1 l1 (arD (cd p) a v) false else some (.inr (p, l, a)))
    else if h = 8 then thn (PP cd vl o F 10 d p l a false) fun p1 l1 v => PP cd vl o F 9 d p1 l1 v false
    else if h = 9 then (if cd p = 142 ∨ cd p = 147 ∨ cd p = 137 then thn (PP cd vl o F 10 d (p + 1) l a false) fun p1 l1 v => PP cd vl o F 9 d p1 l1 (arD (cd p) a v) false else some (.inr (p, l, a)))
    else if h = 10 then
      if cd p = 191 then (if d = 8 then some (.inl p) else thn (PP cd vl o F 6 (d + 1) (p + 1) l a false) fun p1 l1 v => if cd p1 = 193 then some (.inr (p1 + 1, l1, v)) else some (.inl p1))
      else if (cd p = 50 ∧ vl p ≤ 1000) ∨ (wlo o ≤ cd p ∧ cd p ≤ whi o) then
        if l = 50 then some (.inl p)
        else if o = true ∧ (cd p = 12 ∨ cd p = 17) then
          (if cd (p + 1) = 50 ∧ 0 ≤ vl (p + 1) ∧ vl (p + 1) ≤ lkm (cd p) then some (.inr (p + 2, l + 1, wD (cd p) (vl (p + 1)))) else some (.inl (p + 1)))
        else some (.inr (p + 1, l + 1, if cd p = 50 then kD (vl p) else wD (cd p) 0))
      else some (.inl p)
    else
      if cd p = 140 then (if d = 8 then some (.inl p) else thn (PP cd vl o F 0 (d + 1) (p + 1) l a false) fun p1 l1 v => if cd p1 = 141 then some (.inr (p1 + 1, l1, if q then notD v else v)) else some (.inl p1))
      else thn (PP cd vl o F 6 d p l a false) fun p1 l1 v => if cd p1 = 160 ∨ cd p1 = 162 ∨ cd p1 = 161 then thn (PP cd vl o F 6 d (p1 + 1) l1 a false) fun p2 l2 v2 => some (.inr (p2, l2, if q then notD (cpD (cd p1) v v2) else cpD (cd p1) v v2)) else some (.inl p1)
theorem PP0 {cd vl : Nat → Int} {o : Bool} {F d p l : Nat} {a : Dn} {q : Bool} : PP cd vl o (F + 1) 0 d p l a q = (thn (PP cd vl o F 2 d p l a false) fun p1 l1 v => PP cd vl o F 1 d p1 l1 v false) := rfl
theorem PP1 {cd vl : Nat → Int} {o : Bool} {F d p l : Nat} {a : Dn} {q : Bool} : PP cd vl o (F + 1) 1 d p l a q = ((if cd p = 4 then thn (PP cd vl o F 2 d (p + 1) l a false) fun p1 l1 v => PP cd vl o F 1 d p1 l1 (orD a v) false else some (.inr (p, l, a)))) := rfl
theorem PP2 {cd vl : Nat → Int} {o : Bool} {F d p l : Nat} {a : Dn} {q : Bool} : PP cd vl o (F + 1) 2 d p l a q = (thn (PP cd vl o F 4 d p l a false) fun p1 l1 v => PP cd vl o F 3 d p1 l1 v false) := rfl
theorem PP3 {cd vl : Nat → Int} {o : Bool} {F d p l : Nat} {a : Dn} {q : Bool} : PP cd vl o (F + 1) 3 d p l a q = ((if cd p = 5 then thn (PP cd vl o F 4 d (p + 1) l a false) fun p1 l1 v => PP cd vl o F 3 d p1 l1 (andD a v) false else some (.inr (p, l, a)))) := rfl
theorem PP4 {cd vl : Nat → Int} {o : Bool} {F d p l : Nat} {a : Dn} {q : Bool} : PP cd vl o (F + 1) 4 d p l a q = (PP cd vl o F 5 d p l a false) := rfl
theorem PP5 {cd vl : Nat → Int} {o : Bool} {F d p l : Nat} {a : Dn} {q : Bool} : PP cd vl o (F + 1) 5 d p l a q = ((if cd p = 6 then PP cd vl o F 5 d (p + 1) l a (!q) else PP cd vl o F 11 d p l a q)) := rfl
theorem PP6 {cd vl : Nat → Int} {o : Bool} {F d p l : Nat} {a : Dn} {q : Bool} : PP cd vl o (F + 1) 6 d p l a q = (thn (PP cd vl o F 8 d p l a false) fun p1 l1 v => PP cd vl o F 7 d p1 l1 v false) := rfl
theorem PP7 {cd vl : Nat → Int} {o : Bool} {F d p l : Nat} {a : Dn} {q : Bool} : PP cd vl o (F + 1) 7 d p l a q = ((if cd p = 143 ∨ cd p = 145 then thn (PP cd vl o F 8 d (p + 1) l a false) fun p1 l1 v => PP cd vl o F 7 d p1 l1 (arD (cd p) a v) false else some (.inr (p, l, a)))) := rfl
theorem PP8 {cd vl : Nat → Int} {o : Bool} {F d p l : Nat} {a : Dn} {q : Bool} : PP cd vl o (F + 1) 8 d p l a q = (thn (PP cd vl o F 10 d p l a false) fun p1 l1 v => PP cd vl o F 9 d p1 l1 v false) := rfl
theorem PP9 {cd vl : Nat → Int} {o : Bool} {F d p l : Nat} {a : Dn} {q : Bool} : PP cd vl o (F + 1) 9 d p l a q = ((if cd p = 142 ∨ cd p = 147 ∨ cd p = 137 then thn (PP cd vl o F 10 d (p + 1) l a false) fun p1 l1 v => PP cd vl o F 9 d p1 l1 (arD (cd p) a v) false else some (.inr (p, l, a)))) := rfl
theorem PP10 {cd vl : Nat → Int} {o : Bool} {F d p l : Nat} {a : Dn} {q : Bool} : PP cd vl o (F + 1) 10 d p l a q = (if cd p = 191 then (if d = 8 then some (.inl p) else thn (PP cd vl o F 6 (d + 1) (p + 1) l a false) fun p1 l1 v => if cd p1 = 193 then some (.inr (p1 + 1, l1, v)) else some (.inl p1))
      else if (cd p = 50 ∧ vl p ≤ 1000) ∨ (wlo o ≤ cd p ∧ cd p ≤ whi o) then
        if l = 50 then some (.inl p)
        else if o = true ∧ (cd p = 12 ∨ cd p = 17) then
          (if cd (p + 1) = 50 ∧ 0 ≤ vl (p + 1) ∧ vl (p + 1) ≤ lkm (cd p) then some (.inr (p + 2, l + 1, wD (cd p) (vl (p + 1)))) else some (.inl (p + 1)))
        else some (.inr (p + 1, l + 1, if cd p = 50 then kD (vl p) else wD (cd p) 0))
      else some (.inl p)) := rfl
theorem PP11 {cd vl : Nat → Int} {o : Bool} {F d p l : Nat} {a : Dn} {q : Bool} : PP cd vl o (F + 1) 11 d p l a q = (if cd p = 140 then (if d = 8 then some (.inl p) else thn (PP cd vl o F 0 (d + 1) (p + 1) l a false) fun p1 l1 v => if cd p1 = 141 then some (.inr (p1 + 1, l1, if q then notD v else v)) else some (.inl p1))
      else thn (PP cd vl o F 6 d p l a false) fun p1 l1 v => if cd p1 = 160 ∨ cd p1 = 162 ∨ cd p1 = 161 then thn (PP cd vl o F 6 d (p1 + 1) l1 a false) fun p2 l2 v2 => some (.inr (p2, l2, if q then notD (cpD (cd p1) v v2) else cpD (cd p1) v v2)) else some (.inl p1)) := rfl
/-- within the text -/
def PPok (T p l : Nat) (res : Pr) : Prop := match res with
  | .inl e => p ≤ e ∧ e ≤ T
  | .inr y => p ≤ y.1 ∧ y.1 ≤ T ∧ l ≤ y.2.1 ∧ y.2.1 ≤ 50
theorem PPok.tr {T p l p1 l1 : Nat} {res : Pr} (h : PPok T p1 l1 res) (hp : p ≤ p1) (hl : l ≤ l1) : PPok T p l res := by
  cases res with
  | inl e => exact ⟨Nat.le_trans hp h.1, h.2⟩
  | inr y => exact ⟨Nat.le_trans hp h.1, h.2.1, Nat.le_trans hl h.2.2.1, h.2.2.2⟩
theorem tk_lt {cd : Nat → Int} {T p : Nat} (h0 : cd T = 0) (hp : p ≤ T) (h : cd p ≠ 0) : p + 1 ≤ T := by
  rcases Nat.lt_or_ge p T with q | q
  · exact q
  · exact absurd (by rw [Nat.le_antisymm hp q]; exact h0) h
theorem PP_in {cd vl : Nat → Int} {o : Bool} {T : Nat} (h0 : cd T = 0) : ∀ (F h d p l : Nat) (a : Dn) (q : Bool) (res : Pr), h ≤ 11 → PP cd vl o F h d p l a q = some res → p ≤ T → l ≤ 50 → PPok T p l res := by
  intro F
  induction F with
  | zero => intro h d p l a q res _ hh; cases hh
  | succ F ih =>
    intro h d p l a q res h11 hh hp hl
    have two : ∀ (h1 h2 d1 p1 : Nat) (a1 : Dn) (f : Dn → Dn), h1 ≤ 11 → h2 ≤ 11 → p ≤ p1 → p1 ≤ T → thn (PP cd vl o F h1 d1 p1 l a1 false) (fun p2 l2 v => PP cd vl o F h2 d p2 l2 (f v) false) = some res → PPok T p l res := by
      intro h1 h2 d1 p1 a1 f u1 u2 e1 e2 e
      rcases thn_inv e with ⟨x, q1, q2⟩ | ⟨p2, l2, v, q1, q2⟩
      · subst q2; exact (ih _ _ _ _ _ _ _ u1 q1 e2 hl).tr e1 (Nat.le_refl _)
      · have b1 := ih _ _ _ _ _ _ _ u1 q1 e2 hl
        exact (ih _ _ _ _ _ _ _ u2 q2 b1.2.1 b1.2.2.2).tr (Nat.le_trans e1 b1.1) b1.2.2.1
    have stay : some (Sum.inr (p, l, a)) = some res → PPok T p l res := by
      intro e; cases e; exact ⟨Nat.le_refl _, hp, Nat.le_refl _, hl⟩
    have bad : some (Sum.inl p) = some res → PPok T p l res := by
      intro e; cases e; exact ⟨Nat.le_refl _, hp⟩
    match h, h11, hh with
    | 0, _, hh =>
      rw [PP0] at hh
      exact two 2 1 d p a id (by decide) (by decide) (Nat.le_refl _) hp hh
    | 1, _, hh =>
      rw [PP1] at hh
      split at hh
      · rename_i c; exact two 2 1 d (p + 1) a (orD a) (by decide) (by decide) (by omega) (tk_lt h0 hp (by rw [c]; decide)) hh
      · exact stay hh
    | 2, _, hh =>
      rw [PP2] at hh
      exact two 4 3 d p a id (by decide) (by decide) (Nat.le_refl _) hp hh
    | 3, _, hh =>
      rw [PP3] at hh
      split at hh
      · rename_i c; exact two 4 3 d (p + 1) a (andD a) (by decide) (by decide) (by omega) (tk_lt h0 hp (by rw [c]; decide)) hh
      · exact stay hh
    | 4, _, hh =>
      rw [PP4] at hh
      exact ih _ _ _ _ _ _ _ (by decide) hh hp hl
    | 5, _, hh =>
      rw [PP5] at hh
      split at hh
      · rename_i c; exact (ih _ _ _ _ _ _ _ (by decide) hh (tk_lt h0 hp (by rw [c]; decide)) hl).tr (by omega) (Nat.le_refl _)
      · exact ih _ _ _ _ _ _ _ (by decide) hh hp hl
    | 6, _, hh =>
      rw [PP6] at hh
      exact two 8 7 d p a id (by decide) (by decide) (Nat.le_refl _) hp hh
    | 7, _, hh =>
      rw [PP7] at hh
      split at hh
      · rename_i c; exact two 8 7 d (p + 1) a (arD (cd p) a) (by decide) (by decide) (by omega) (tk_lt h0 hp (by omega)) hh
      · exact stay hh
    | 8, _, hh =>
      rw [PP8] at hh
      exact two 10 9 d p a id (by decide) (by decide) (Nat.le_refl _) hp hh
    | 9, _, hh =>
      rw [PP9] at hh
      split at hh
      · rename_i c; exact two 10 9 d (p + 1) a (arD (cd p) a) (by decide) (by decide) (by omega) (tk_lt h0 hp (by omega)) hh
      · exact stay hh
    | 10, _, hh =>
      rw [PP10] at hh
      split at hh
      · rename_i c
        split at hh
        · exact bad hh
        · rcases thn_inv hh with ⟨x, q1, q2⟩ | ⟨p2, l2, v, q1, q2⟩
          · subst q2; exact (ih _ _ _ _ _ _ _ (by decide) q1 (tk_lt h0 hp (by rw [c]; decide)) hl).tr (by omega) (Nat.le_refl _)
          · have b1 := ih _ _ _ _ _ _ _ (by decide) q1 (tk_lt h0 hp (by rw [c]; decide)) hl
            split at q2
            · rename_i c2; cases q2
              have b2 := tk_lt h0 b1.2.1 (by rw [c2]; decide)
              exact ⟨by have := b1.1; dsimp only at this ⊢; omega, b2, b1.2.2⟩
            · cases q2; exact ⟨by have := b1.1; dsimp only at this ⊢; omega, b1.2.1⟩
      split at hh
      · rename_i c
        have c0 : cd p ≠ 0 := by
          rcases c with c | c
          · omega
          · have := wlo_b o; omega
        have c1 := tk_lt h0 hp c0
        split at hh
        · exact bad hh
        split at hh
        · split at hh
          · rename_i c3; cases hh
            have c2 := tk_lt h0 c1 (by omega)
            exact ⟨by dsimp only; omega, c2, by dsimp only; omega, by dsimp only; omega⟩
          · cases hh; exact ⟨by omega, c1⟩
        · cases hh
          exact ⟨by dsimp only; omega, c1, by dsimp only; omega, by dsimp only; omega⟩
      · exact bad hh
    | 11, _, hh =>
      rw [PP11] at hh
      split at hh
      · rename_i c
        split at hh
        · exact bad hh
        · rcases thn_inv hh with ⟨x, q1, q2⟩ | ⟨p2, l2, v, q1, q2⟩
          · subst q2; exact (ih _ _ _ _ _ _ _ (by decide) q1 (tk_lt h0 hp (by rw [c]; decide)) hl).tr (by omega) (Nat.le_refl _)
          · have b1 := ih _ _ _ _ _ _ _ (by decide) q1 (tk_lt h0 hp (by rw [c]; decide)) hl
            split at q2
            · rename_i c2; cases q2
              have b2 := tk_lt h0 b1.2.1 (by rw [c2]; decide)
              exact ⟨by have := b1.1; dsimp only at this ⊢; omega, b2, b1.2.2⟩
            · cases q2; exact ⟨by have := b1.1; dsimp only at this ⊢; omega, b1.2.1⟩
      · rcases thn_inv hh with ⟨x, q1, q2⟩ | ⟨p2, l2, v, q1, q2⟩
        · subst q2; exact ih _ _ _ _ _ _ _ (by decide) q1 hp hl
        · have b1 := ih _ _ _ _ _ _ _ (by decide) q1 hp hl
          split at q2
          · rename_i c2
            have b3 := tk_lt (p := p2) h0 b1.2.1 (by omega)
            rcases thn_inv q2 with ⟨x, q3, q4⟩ | ⟨p3, l3, v3, q3, q4⟩
            · subst q4; exact (ih _ _ _ _ _ _ _ (by decide) q3 b3 b1.2.2.2).tr (by have := b1.1; dsimp only at this; omega) b1.2.2.1
            · have b4 := ih _ _ _ _ _ _ _ (by decide) q3 b3 b1.2.2.2
              cases q4
              exact ⟨by have := b1.1; have := b4.1; dsimp only at *; omega, b4.2.1, by have := b1.2.2.1; have := b4.2.2.1; dsimp only at *; omega, b4.2.2.2⟩
          · cases q2; exact ⟨b1.1, b1.2.1⟩
    | h + 12, hx, _ => exact absurd hx (by omega)
