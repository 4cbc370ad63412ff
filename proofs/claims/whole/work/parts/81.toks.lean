/-! Tokens: the tape's bytes, split; words, numbers. -/
def knd (x : Int) : Nat := if 97 ≤ x ∧ x ≤ 122 then 0 else if 48 ≤ x ∧ x ≤ 57 then 1 else 2
/-- how far bytes of one kind go on -/
def rnn (bt : Nat → Int) (len k : Nat) : Nat → Nat → Nat
  | 0, s => s
  | f + 1, s => if s < len ∧ knd (bt s) = k then rnn bt len k f (s + 1) else s
def nxt (bt : Nat → Int) (len s : Nat) : Nat := if knd (bt s) = 2 then s + 1 else rnn bt len (knd (bt s)) (len - (s + 1)) (s + 1)
def tks (bt : Nat → Int) (len : Nat) : Nat → Nat → List (Nat × Nat)
  | 0, _ => []
  | f + 1, s => if len ≤ s then [] else if bt s = 32 then tks bt len f (s + 1) else (s, nxt bt len s) :: tks bt len f (nxt bt len s)
def wrd (bt : Nat → Int) (s n : Nat) : List Int := (List.range n).map fun j => bt (s + j)
def VR : List (List Int) := [[114, 97, 110, 107, 115], [98, 97, 114, 115], [105, 102], [111, 114], [97, 110, 100], [110, 111, 116], [118, 101, 114, 116, 101, 120], [112, 97, 114, 116], [107, 101, 121], [115, 101, 101, 100], [109, 111, 111, 100], [100, 101, 103, 114, 101, 101], [116, 105, 109, 101], [100, 111, 110, 101], [108, 97, 116, 101, 115, 116], [107, 101, 121, 115], [110, 117, 109, 98, 101, 114], [97, 100, 100], [116, 97, 107, 101], [115, 105, 100, 101], [98, 117, 105, 108, 100], [116, 105, 109, 101, 115]]
def VC : List (List Int) := [[118, 101, 114, 116, 101, 120], [112, 97, 114, 116], [107, 101, 121], [115, 101, 101, 100], [109, 111, 111, 100], [100, 101, 103, 114, 101, 101], [116, 105, 109, 101], [100, 111, 110, 101], [108, 97, 116, 101, 115, 116], [107, 101, 121, 115], [110, 117, 109, 98, 101, 114], [114, 97, 110, 107, 115], [98, 97, 114, 115], [97, 100, 100], [116, 97, 107, 101], [115, 105, 100, 101], [98, 117, 105, 108, 100], [116, 105, 109, 101, 115], [105, 102], [111, 114], [97, 110, 100], [110, 111, 116]]
def ixo : List (List Int) → List Int → Option Nat
  | [], _ => none
  | x :: xs, w => if x = w then some 0 else (ixo xs w).map (· + 1)
def wcc (w : List Int) : Int := match ixo VR w with
  | some i => i + 1
  | none => 0
def wtt (w : List Int) : Int := match ixo VC w with
  | some i => i
  | none => 22
theorem ixo_some {ws : List (List Int)} {w : List Int} {i : Nat} (h : ixo ws w = some i) : ws[i]? = some w := by
  induction ws generalizing i with
  | nil => cases h
  | cons x xs ih =>
    rw [ixo] at h
    split at h
    · rename_i c; cases h; rw [c]; rfl
    · cases hx : ixo xs w with
      | none => rw [hx] at h; cases h
      | some j =>
        rw [hx] at h
        cases h
        exact ih hx
theorem ixo_none {ws : List (List Int)} {w : List Int} (h : ixo ws w = none) : w ∉ ws := by
  induction ws with
  | nil => simp
  | cons x xs ih =>
    rw [ixo] at h
    split at h
    · cases h
    · rename_i c
      cases hx : ixo xs w with
      | none => simp only [List.mem_cons, not_or]; exact ⟨fun z => c z.symm, ih hx⟩
      | some j => rw [hx] at h; cases h
/-- the words of both lists are the same; where each is -/
theorem VV : ∀ i : Fin 22, (ixo VC (VR.getD i [])).isSome = true ∧ (((i : Nat) < 3 ∧ ((i : Nat) = 0 ∧ ixo VC (VR.getD i []) = some 11 ∨ (i : Nat) = 1 ∧ ixo VC (VR.getD i []) = some 12 ∨ (i : Nat) = 2 ∧ ixo VC (VR.getD i []) = some 18)) ∨ (3 ≤ (i : Nat) ∧ (i : Nat) < 6 ∧ ixo VC (VR.getD i []) = some ((i : Nat) + 16)) ∨ (6 ≤ (i : Nat) ∧ (i : Nat) < 17 ∧ ixo VC (VR.getD i []) = some ((i : Nat) - 6)) ∨ (17 ≤ (i : Nat) ∧ ixo VC (VR.getD i []) = some ((i : Nat) - 4))) := by decide
theorem VW : ∀ w ∈ VC, w ∈ VR := by decide
theorem wc_TV (w : List Int) : TV (wcc w) (wtt w) := by
  unfold wcc wtt
  cases hr : ixo VR w with
  | none =>
    have n1 := ixo_none hr
    cases hc : ixo VC w with
    | none => unfold TV; exact Or.inr (Or.inl ⟨rfl, Or.inl rfl⟩)
    | some j =>
      have := ixo_some hc
      exact absurd (VW w (List.mem_of_getElem? this)) n1
  | some i =>
    have h1 := ixo_some hr
    have h2 : i < 22 := by
      rcases Nat.lt_or_ge i 22 with z | z
      · exact z
      · rw [List.getElem?_eq_none (show VR.length ≤ i from z)] at h1; cases h1
    have h3 : VR.getD i [] = w := by rw [List.getD_eq_getElem?_getD, h1]; rfl
    have h4 := (VV ⟨i, h2⟩).2
    dsimp only at h4
    rw [h3] at h4
    rcases h4 with ⟨_, ⟨e, h⟩ | ⟨e, h⟩ | ⟨e, h⟩⟩ | ⟨e1, e2, h⟩ | ⟨e1, e2, h⟩ | ⟨e1, h⟩ <;> rw [h] <;> dsimp only <;> unfold TV <;> omega
theorem wt_b (w : List Int) : 0 ≤ wtt w ∧ wtt w ≤ 22 := by
  unfold wtt
  cases hc : ixo VC w with
  | none => decide
  | some j =>
    have h1 := ixo_some hc
    have h2 : j < 22 := by
      rcases Nat.lt_or_ge j 22 with z | z
      · exact z
      · rw [List.getElem?_eq_none (show VC.length ≤ j from z)] at h1; cases h1
    dsimp only
    omega
/-- numbers, as the reference and as the class have them -/
def vff (bt : Nat → Int) : Nat → Nat → Int → Int
  | 0, _, v => v
  | n + 1, s, v => vff bt n (s + 1) (if v ≤ 1000000 then 10 * v + bt s - 48 else v)
def nff (bt : Nat → Int) : Nat → Nat → Int → Int
  | 0, _, v => v
  | n + 1, s, v => nff bt n (s + 1) (if 1001 < v * 10 + bt s - 48 then 1001 else v * 10 + bt s - 48)
theorem vn_R {bt : Nat → Int} : ∀ (n s : Nat) (v u : Int), (∀ j, j < n → 48 ≤ bt (s + j) ∧ bt (s + j) ≤ 57) → 0 ≤ v → v ≤ 20000000 → ((v ≤ 1000 ∧ u = v) ∨ (1000 < v ∧ u = 1001)) → 0 ≤ vff bt n s v ∧ vff bt n s v ≤ 20000000 ∧ ((vff bt n s v ≤ 1000 ∧ nff bt n s u = vff bt n s v) ∨ (1000 < vff bt n s v ∧ nff bt n s u = 1001)) := by
  intro n
  induction n with
  | zero => intro s v u _ h1 h2 h3; exact ⟨h1, h2, h3⟩
  | succ n ih =>
    intro s v u hb h1 h2 h3
    have h4 := hb 0 (by omega)
    rw [Nat.add_zero] at h4
    rw [vff, nff]
    refine ih (s + 1) _ _ (fun j hj => by have := hb (j + 1) (by omega); rw [show s + (j + 1) = s + 1 + j by omega] at this; exact this) ?_ ?_ ?_
    · split <;> omega
    · split <;> omega
    · rcases h3 with ⟨h5, h6⟩ | ⟨h5, h6⟩
      · rw [if_pos (show v ≤ 1000000 by omega), h6]
        by_cases c : 1001 < v * 10 + bt s - 48
        · rw [if_pos c]; right; exact ⟨by omega, rfl⟩
        · rw [if_neg c]
          by_cases c2 : 10 * v + bt s - 48 ≤ 1000
          · left; exact ⟨c2, by omega⟩
          · right; exact ⟨by omega, by omega⟩
      · rw [h6, if_pos (show 1001 < 1001 * 10 + bt s - 48 by omega)]
        right
        refine ⟨?_, rfl⟩
        split <;> omega
/-- a token's code, value, the class's token and number -/
def cdT (bt : Nat → Int) (x : Nat × Nat) : Int := if knd (bt x.1) = 0 then wcc (wrd bt x.1 (x.2 - x.1)) else if knd (bt x.1) = 1 then 50 else 100 + bt x.1
def tkT (bt : Nat → Int) (x : Nat × Nat) : Int := if knd (bt x.1) = 0 then wtt (wrd bt x.1 (x.2 - x.1)) else if knd (bt x.1) = 1 then 23 else 25 + bt x.1
def vlT (bt : Nat → Int) (x : Nat × Nat) : Int := if knd (bt x.1) = 1 then vff bt (x.2 - x.1) x.1 0 else 0
def nbT (bt : Nat → Int) (x : Nat × Nat) : Int := if knd (bt x.1) = 1 then nff bt (x.2 - x.1) x.1 0 else -1
def at0 {α : Type} (f : α → Int) (d : Int) (l : List α) (i : Nat) : Int := match l[i]? with
  | some x => f x
  | none => d
theorem rnn_R {bt : Nat → Int} {len k : Nat} : ∀ (f s : Nat), s ≤ len → len ≤ s + f → s ≤ rnn bt len k f s ∧ rnn bt len k f s ≤ len ∧ (∀ j, s ≤ j → j < rnn bt len k f s → knd (bt j) = k) ∧ (rnn bt len k f s < len → knd (bt (rnn bt len k f s)) ≠ k) := by
  intro f
  induction f with
  | zero => intro s h1 h2; exact ⟨Nat.le_refl _, h1, fun j h3 h4 => absurd h4 (by rw [rnn]; omega), fun h => absurd h (by rw [rnn]; omega)⟩
  | succ f ih =>
    intro s h1 h2
    rw [rnn]
    split
    · rename_i c
      obtain ⟨a1, a2, a3, a4⟩ := ih (s + 1) (by omega) (by omega)
      refine ⟨by omega, a2, fun j h3 h4 => ?_, a4⟩
      rcases Nat.lt_or_ge s j with z | z
      · exact a3 j (by omega) h4
      · rw [show j = s by omega]; exact c.2
    · rename_i c
      exact ⟨Nat.le_refl _, h1, fun j h3 h4 => absurd h4 (by omega), fun h z => c ⟨h, z⟩⟩
theorem nxt_R {bt : Nat → Int} {len s : Nat} (h : s < len) : s < nxt bt len s ∧ nxt bt len s ≤ len ∧ (∀ j, s ≤ j → j < nxt bt len s → knd (bt j) = knd (bt s)) ∧ (knd (bt s) ≠ 2 → nxt bt len s < len → knd (bt (nxt bt len s)) ≠ knd (bt s)) := by
  unfold nxt
  split
  · rename_i c
    exact ⟨by omega, by omega, fun j h1 h2 => by rw [show j = s by omega], fun z => absurd c z⟩
  · obtain ⟨a1, a2, a3, a4⟩ := rnn_R (bt := bt) (len := len) (k := knd (bt s)) (len - (s + 1)) (s + 1) (by omega) (by omega)
    refine ⟨by omega, a2, fun j h1 h2 => ?_, fun _ => a4⟩
    rcases Nat.lt_or_ge s j with z | z
    · exact a3 j (by omega) h2
    · rw [show j = s by omega]
theorem tks_R {bt : Nat → Int} {len : Nat} : ∀ (f s : Nat), (∀ x ∈ tks bt len f s, s ≤ x.1 ∧ x.1 < len ∧ x.2 = nxt bt len x.1) ∧ (tks bt len f s).length ≤ len - s := by
  intro f
  induction f with
  | zero => intro s; exact ⟨fun x hx => (by cases hx), Nat.zero_le _⟩
  | succ f ih =>
    intro s
    rw [tks]
    split
    · exact ⟨fun x hx => (by cases hx), Nat.zero_le _⟩
    split
    · obtain ⟨h1, h2⟩ := ih (s + 1)
      exact ⟨fun x hx => ⟨by have := (h1 x hx).1; omega, (h1 x hx).2⟩, by omega⟩
    · rename_i c1 c2
      obtain ⟨h1, h2⟩ := ih (nxt bt len s)
      have hn := nxt_R (bt := bt) (show s < len by omega)
      refine ⟨fun x hx => ?_, ?_⟩
      · rcases List.mem_cons.mp hx with z | z
        · rw [z]; exact ⟨Nat.le_refl _, by dsimp only; omega, rfl⟩
        · exact ⟨by have := (h1 x z).1; omega, (h1 x z).2⟩
      · rw [List.length_cons]; omega
/-- what is known of all tokens -/
theorem tok_R {bt : Nat → Int} {len : Nat} (hl : len ≤ 400) (hb : ∀ i, i < len → 0 ≤ bt i ∧ bt i ≤ 255) : (tks bt len len 0).length ≤ 400 ∧ ∀ i, i ≤ (tks bt len len 0).length → TV (at0 (cdT bt) 0 (tks bt len len 0) i) (at0 (tkT bt) 24 (tks bt len len 0) i) ∧ (at0 (tkT bt) 24 (tks bt len len 0) i = 24 ↔ i = (tks bt len len 0).length) ∧ NB (at0 (cdT bt) 0 (tks bt len len 0) i) (at0 (vlT bt) 0 (tks bt len len 0) i) (at0 (nbT bt) (-1) (tks bt len len 0) i) ∧ 0 ≤ at0 (vlT bt) 0 (tks bt len len 0) i ∧ at0 (vlT bt) 0 (tks bt len len 0) i ≤ 20000000 ∧ 0 ≤ at0 (fun x => (x.1 : Int)) len (tks bt len len 0) i ∧ at0 (fun x => (x.1 : Int)) len (tks bt len len 0) i ≤ 400 := by
  obtain ⟨h1, h2⟩ := tks_R (bt := bt) (len := len) len 0
  refine ⟨by omega, fun i hi => ?_⟩
  unfold at0
  cases hx : (tks bt len len 0)[i]? with
  | none =>
    have h3 := List.getElem?_eq_none_iff.mp hx
    dsimp only
    refine ⟨Or.inr (Or.inl ⟨rfl, Or.inr rfl⟩), ⟨fun _ => by omega, fun _ => rfl⟩, Or.inr (Or.inr ⟨by decide, rfl⟩), by decide, by decide, by omega, by omega⟩
  | some x =>
    obtain ⟨h3, h4, h5⟩ := h1 x (List.mem_of_getElem? hx)
    have h6 : i < (tks bt len len 0).length := by
      rcases Nat.lt_or_ge i (tks bt len len 0).length with z | z
      · exact z
      · rw [List.getElem?_eq_none z] at hx; cases hx
    have hbx := hb x.1 h4
    have hn := nxt_R (bt := bt) h4
    dsimp only
    unfold cdT tkT vlT nbT
    have wv := wc_TV (wrd bt x.1 (x.2 - x.1))
    have wb := wt_b (wrd bt x.1 (x.2 - x.1))
    have tb := TV_b wv
    by_cases k0 : knd (bt x.1) = 0
    · rw [if_pos k0, if_pos k0, if_neg (by omega), if_neg (by omega)]
      refine ⟨wv, ⟨fun z => by omega, fun z => by omega⟩, Or.inr (Or.inr ⟨?_, rfl⟩), by decide, by decide, by omega, by omega⟩
      intro z
      unfold TV at wv
      omega
    · rw [if_neg k0, if_neg k0]
      by_cases k1 : knd (bt x.1) = 1
      · rw [if_pos k1, if_pos k1, if_pos k1, if_pos k1]
        have dg : ∀ j, j < x.2 - x.1 → 48 ≤ bt (x.1 + j) ∧ bt (x.1 + j) ≤ 57 := fun j hj => by
          have := hn.2.2.1 (x.1 + j) (by omega) (by omega)
          rw [k1] at this
          unfold knd at this
          split at this
          · cases this
          · split at this
            · rename_i c; exact c
            · cases this
        obtain ⟨v1, v2, v3⟩ := vn_R (x.2 - x.1) x.1 0 0 dg (by omega) (by omega) (Or.inl ⟨by omega, rfl⟩)
        refine ⟨?_, ⟨fun z => by omega, fun z => by omega⟩, ?_, v1, v2, by omega, by omega⟩
        · unfold TV; omega
        · unfold NB; omega
      · rw [if_neg k1, if_neg k1, if_neg k1, if_neg k1]
        refine ⟨?_, ⟨fun z => by omega, fun z => by omega⟩, ?_, by decide, by decide, by omega, by omega⟩
        · unfold TV; omega
        · unfold NB
          refine Or.inr (Or.inr ⟨?_, rfl⟩)
          omega
