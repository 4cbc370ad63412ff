/-! A tape read as a text: both readings are one. -/
abbrev tkL (bt : Nat → Int) (len : Nat) : List (Nat × Nat) := tks bt len len 0
abbrev tkc (bt : Nat → Int) (len : Nat) : Nat → Int := at0 (cdT bt) 0 (tkL bt len)
abbrev tkv (bt : Nat → Int) (len : Nat) : Nat → Int := at0 (vlT bt) 0 (tkL bt len)
abbrev tkp (bt : Nat → Int) (len : Nat) : Nat → Int := at0 (fun x => (x.1 : Int)) len (tkL bt len)
abbrev tkt (bt : Nat → Int) (len : Nat) : Nat → Int := at0 (tkT bt) 24 (tkL bt len)
abbrev tkn (bt : Nat → Int) (len : Nat) : Nat → Int := at0 (nbT bt) (-1) (tkL bt len)
/-- the reading of a tape: a place in it, or clauses -/
def RD (bt : Nat → Int) (len : Nat) (o : Bool) : Nat ⊕ List (Nat × Cl) := RA (tkc bt len) (tkv bt len) o (tkL bt len).length 12 0 0
theorem tkc_T {bt : Nat → Int} {len : Nat} : tkc bt len (tkL bt len).length = 0 := at0_none (List.getElem?_eq_none (Nat.le_refl _))
theorem tk_of {M : gM} {b : Nat} {bt : Nat → Int} {len : Nat} (hl : len ≤ 400) (hb : ∀ i, i < len → 0 ≤ bt i ∧ bt i ≤ 255) (h : Mca M b bt len ((tkL bt len).length + 1) (tkL bt len)) : Tk M b (tkc bt len) (tkv bt len) (tkp bt len) (tkL bt len).length := by
  obtain ⟨t1, t2⟩ := tok_R hl hb
  refine ⟨t1, tkc_T, fun i hi => ?_⟩
  obtain ⟨a1, a2, a3, a4, a5, a6, a7⟩ := t2 i hi
  obtain ⟨g1, g2, g3⟩ := h i (by omega)
  have tb := TV_b a1
  exact ⟨g1, g2, g3, tb.2.2.1, tb.2.2.2, a4, a5, a6, a7⟩
theorem ct_of {M : gM} {a : Nat} {bt : Nat → Int} {len : Nat} {o : Bool} (hl : len ≤ 400) (hb : ∀ i, i < len → 0 ≤ bt i ∧ bt i ≤ 255) (h : Ca M a bt len ((tkL bt len).length + 1) (tkL bt len)) (ho : g_mi M a 12 = iB o) : Ct M a (tkc bt len) (tkv bt len) (tkp bt len) (tkt bt len) (tkn bt len) (tkL bt len).length o := by
  obtain ⟨t1, t2⟩ := tok_R hl hb
  refine ⟨t1, tkc_T, fun i hi => ?_, ho⟩
  obtain ⟨a1, a2, a3, a4, a5, a6, a7⟩ := t2 i hi
  obtain ⟨g1, g2, g3⟩ := h i (by omega)
  exact ⟨a1, a2, a3, a4, a5, a6, a7, g1, g2, g3⟩
/-- behind the reference's reading, behind the class's -/
def Fr9 (b : Nat) (M M1 : gM) : Prop := ∀ c j, c ≠ b + 9 → c ≠ b + 10 → c ≠ b + 11 → (c ≠ b ∨ (j ≠ 8 ∧ j ≠ 9 ∧ j ≠ 10 ∧ j ≠ 13 ∧ j ≠ 14 ∧ j ≠ 18 ∧ j ≠ 19 ∧ j ≠ 20 ∧ j ≠ 21)) → g_mi M1 c j = g_mi M c j
def Fr2 (a : Nat) (M M1 : gM) : Prop := ∀ c j, (c ≠ a ∨ (j ≠ 4 ∧ j ≠ 5 ∧ j ≠ 6 ∧ j ≠ 10 ∧ j ≠ 11 ∧ j ≠ 12)) → (c ≤ a + 1 ∨ a + 13 < c) → g_mi M1 c j = g_mi M c j
def Rm (M1 : gM) (b : Nat) (bt : Nat → Int) (len : Nat) (v : Int32) (res : Nat ⊕ List (Nat × Cl)) : Prop := match res with
  | .inl e => v = 0 ∧ g_mi M1 b 14 = iZ (tkp bt len e)
  | .inr _ => v = 1 ∧ g_mi M1 b 14 = iZ (-1)
def Rc (M1 : gM) (a : Nat) (bt : Nat → Int) (len : Nat) (o : Bool) (v : Int32) (res : Nat ⊕ List (Nat × Cl)) : Prop := match res with
  | .inl e => v = 0 ∧ g_mi M1 a 6 = iZ (tkp bt len e)
  | .inr cs => v = 1 ∧ g_mi M1 a 6 = iZ (-1) ∧ cs.length ≤ 12 ∧ g_mi M1 (a + 2) 6 = iZ cs.length ∧ ∃ nl1 len1 : Nat, len1 ≤ 460 ∧ (nl1 ≤ 50 ∧ LB M1 a nl1) ∧ g_mi M1 (a + 2) 7 = iZ len1 ∧ g_mi M1 a 4 = iZ nl1 ∧ ∀ j c, cs[j]? = some c → Ce M1 (a + 2) (Wm M1 a nl1 o) j c.2 len1
section RDS
variable {N K : Nat} {bt : Nat → Int} {len : Nat} {o : Bool}
theorem m_reads {b : Nat} {M : gM} {R : Int32 → gM → Prop} (hN : 2000 ≤ N) (hK : 500 ≤ K) (hB : Mb M b bt len) (hW : Vw M b) (h13 : g_mi M b 13 = iZ len) (hL : Lg M b o) (hR : ∀ M1 v, Fr9 b M M1 → Tk M1 b (tkc bt len) (tkv bt len) (tkp bt len) (tkL bt len).length → g_mi M1 b 18 = iZ (tkL bt len).length → g_mi M1 b 13 = 0 → Rm M1 b bt len v (RD bt len o) → R v M1) : pX9_reads N K M b R := by
  unfold pX9_reads pX9_reads_0
  rw [h13]
  refine ms_ok hN hB hW (fun M1 f1 e1 m1 M2 h2 M3 h3 M4 h4 M5 h5 => ?_)
  have g : ∀ c j, g_mi M5 c j = if c = b ∧ j = 21 then -1 else if c = b ∧ j = 20 then 0 else if c = b ∧ j = 19 then 0 else if c = b ∧ j = 13 then 0 else g_mi M1 c j := fun c j => by rw [h5, mi_wi, h4, mi_wi, h3, mi_wi, h2, mi_wi]
  have gk : ∀ c j, (c ≠ b ∨ (j ≠ 13 ∧ j ≠ 19 ∧ j ≠ 20 ∧ j ≠ 21)) → g_mi M5 c j = g_mi M1 c j := fun c j q => by rw [g, if_neg (by omega), if_neg (by omega), if_neg (by omega), if_neg (by omega)]
  have t5 : Tk M5 b (tkc bt len) (tkv bt len) (tkp bt len) (tkL bt len).length := by
    refine tk_of hB.1 (fun i hi => (hB.2 i hi).2) (fun i hi => ?_)
    rw [gk _ _ (by omega), gk _ _ (by omega), gk _ _ (by omega)]; exact m1 i hi
  have e18 : g_mi M5 b 18 = iZ (tkL bt len).length := by rw [gk _ _ (by omega)]; exact e1
  have e13 : g_mi M5 b 13 = 0 := by rw [g, if_neg (by omega), if_neg (by omega), if_neg (by omega), if_pos ⟨rfl, rfl⟩]
  have L5 : Lg M5 b o := by
    unfold Lg
    rw [gk _ _ (by omega), gk _ _ (by omega), gk _ _ (by omega), f1 _ _ (by omega) (by omega) (by omega) (by omega), f1 _ _ (by omega) (by omega) (by omega) (by omega), f1 _ _ (by omega) (by omega) (by omega) (by omega)]
    exact hL
  have P5 : Pa M5 b 0 0 := by
    refine ⟨?_, ?_, ?_⟩
    · rw [g, if_neg (by omega), if_neg (by omega), if_pos ⟨rfl, rfl⟩]; rfl
    · rw [g, if_neg (by omega), if_pos ⟨rfl, rfl⟩]; rfl
    · rw [g, if_pos ⟨rfl, rfl⟩]; rfl
  -- at the end
  have fin : ∀ M6 v, Fy b M5 M6 → Rm M6 b bt len v (RD bt len o) → R v M6 := fun M6 v f6 r6 => by
    refine hR M6 v (fun c j q1 q2 q3 q4 => ?_) ?_ ?_ ?_ r6
    · rw [f6 c j (by omega), gk c j (by omega)]; exact f1 c j q1 q2 q3 (by omega)
    · unfold Tk
      refine ⟨t5.1, t5.2.1, fun i hi => ?_⟩
      rw [f6 _ _ (by omega), f6 _ _ (by omega), f6 _ _ (by omega)]; exact t5.2.2 i hi
    · rw [f6 _ _ (by omega)]; exact e18
    · rw [f6 _ _ (by omega)]; exact e13
  refine m_one hK t5 L5 P5 (Nat.zero_le _) (by omega) (fun M6 f6 o6 => ?_)
  have e18b : g_mi M6 b 18 = iZ (tkL bt len).length := by rw [f6 _ _ (by omega)]; exact e18
  unfold RD at fin
  rw [RA] at fin
  obtain ⟨n2, rfl⟩ : ∃ n2, N = n2 + 1 := ⟨N - 1, by omega⟩
  cases hrc : RC (tkc bt len) (tkv bt len) o 0 0 with
  | inl e =>
    rw [hrc] at fin o6
    exact m_lbad (t5.fx f6) o6.2 o6.1 (fun M7 f7 e7 => fin M7 0 (f6.y.tr f7) ⟨rfl, e7⟩) n2
  | inr y =>
    rw [hrc] at fin o6
    refine m_loop 11 (n2 + 1) y.1 y.2.1 M6 R (by omega) hK (by omega) (t5.fx f6) (L5.fx f6) o6.1 e18b o6.2.1 o6.2.2.1 (fun M7 v7 f7 o7 => fin M7 v7 (f6.y.tr f7) ?_)
    unfold RB at o7
    dsimp only at o7 ⊢
    split
    · rename_i c2
      rw [if_pos c2] at o7
      cases hra : RA (tkc bt len) (tkv bt len) o (tkL bt len).length 11 (y.1 + 1) y.2.1 with
      | inl e => rw [hra] at o7; exact o7
      | inr cs => rw [hra] at o7; exact o7
    · rename_i c2
      rw [if_neg c2] at o7
      split
      · rename_i c3; rw [if_pos c3] at o7; exact o7
      · rename_i c3; rw [if_neg c3] at o7; exact o7
/-- the reference reads its tape as a law (o = false) or as orders -/
theorem m_readsAs {b : Nat} {M : gM} {R : Int32 → gM → Prop} (hN : 2000 ≤ N) (hK : 500 ≤ K) (hB : Mb M b bt len) (hW : Vw M b) (h13 : g_mi M b 13 = iZ len) (hR : ∀ M1 v, Fr9 b M M1 → Tk M1 b (tkc bt len) (tkv bt len) (tkp bt len) (tkL bt len).length → g_mi M1 b 18 = iZ (tkL bt len).length → g_mi M1 b 13 = 0 → Rm M1 b bt len v (RD bt len o) → R v M1) : pX9_readsAs N K M b (iB o) R := by
  unfold pX9_readsAs
  have main : ∀ (M1 M2 M3 : gM), M1 = g_wi M b 10 (iB o) → M2 = g_wi M1 b 8 (iZ (wlo o)) → M3 = g_wi M2 b 9 (iZ (whi o)) → pX9_reads N K M3 b (fun v1 M4 => (v1 = 0 ∨ v1 = 1) ∧ R v1 M4) := fun M1 M2 M3 h1 h2 h3 => by
    have g : ∀ c j, g_mi M3 c j = if c = b ∧ j = 9 then iZ (whi o) else if c = b ∧ j = 8 then iZ (wlo o) else if c = b ∧ j = 10 then iB o else g_mi M c j := fun c j => by rw [h3, mi_wi, h2, mi_wi, h1, mi_wi]
    have gk : ∀ c j, (c ≠ b ∨ (j ≠ 8 ∧ j ≠ 9 ∧ j ≠ 10)) → g_mi M3 c j = g_mi M c j := fun c j q => by rw [g, if_neg (by omega), if_neg (by omega), if_neg (by omega)]
    refine m_reads (o := o) hN hK ⟨hB.1, fun i hi => by rw [gk _ _ (by omega)]; exact hB.2 i hi⟩ (fun j hj => by rw [gk _ _ (by omega)]; exact hW j hj) (by rw [gk _ _ (by omega)]; exact h13) ⟨?_, ?_, ?_⟩ (fun M4 v f4 t4 e4 e5 r4 => ⟨?_, hR M4 v (fun c j q1 q2 q3 q4 => (f4 c j q1 q2 q3 q4).trans (gk c j (by omega))) t4 e4 e5 r4⟩)
    · rw [g, if_neg (by omega), if_pos ⟨rfl, rfl⟩]
    · rw [g, if_pos ⟨rfl, rfl⟩]
    · rw [g, if_neg (by omega), if_neg (by omega), if_pos ⟨rfl, rfl⟩]
    · unfold Rm at r4
      split at r4
      · exact Or.inl r4.1
      · exact Or.inr r4.1
  refine ⟨iB_o, fun M1 h1 => ⟨fun z => fun M2 h2 M3 h3 => ?_, fun z => fun M2 h2 M3 h3 => ?_⟩⟩
  · cases o with
    | true => exact absurd z (by decide)
    | false => exact main M1 M2 M3 h1 h2 h3
  · cases o with
    | true => exact main M1 M2 M3 h1 h2 h3
    | false => exact absurd rfl z
/-- the class reads its tape -/
theorem c_read {a : Nat} {M : gM} {R : Int32 → gM → Prop} (hN : 2000 ≤ N) (hK : 500 ≤ K) (hB : Cb M a bt len) (hR : ∀ M1 v, Fr2 a M M1 → g_mi M1 a 5 = 0 → Rc M1 a bt len o v (RD bt len o) → R v M1) : pX2_read N K M a (iB o) R := by
  unfold pX2_read pX2_read_0
  refine cs_ok hN hB (fun M1 f1 m1 M2 h2 M3 h3 M4 h4 M5 h5 M6 h6 => ⟨iB_o, fun M7 h7 => ?_⟩)
  unfold pX6_clear
  intro M8 h8 M9 h9
  have g : ∀ c j, g_mi M9 c j = if c = a + 2 ∧ j = 7 then 0 else if c = a + 2 ∧ j = 6 then 0 else if c = a ∧ j = 12 then iB o else if c = a ∧ j = 4 then 0 else if c = a ∧ j = 11 then 0 else if c = a ∧ j = 10 then 0 else if c = a ∧ j = 6 then -1 else if c = a ∧ j = 5 then 0 else g_mi M1 c j := fun c j => by rw [h9, mi_wi, h8, mi_wi, h7, mi_wi, h6, mi_wi, h5, mi_wi, h4, mi_wi, h3, mi_wi, h2, mi_wi]
  have gk : ∀ c j, c ≠ a → c ≠ a + 2 → g_mi M9 c j = g_mi M1 c j := fun c j q1 q2 => by rw [g, if_neg (by omega), if_neg (by omega), if_neg (by omega), if_neg (by omega), if_neg (by omega), if_neg (by omega), if_neg (by omega), if_neg (by omega)]
  have t9 : Ct M9 a (tkc bt len) (tkv bt len) (tkp bt len) (tkt bt len) (tkn bt len) (tkL bt len).length o := by
    refine ct_of hB.1 (fun i hi => (hB.2.2 i hi).2) (fun i hi => ?_) ?_
    · rw [gk _ _ (by omega) (by omega), gk _ _ (by omega) (by omega), gk _ _ (by omega) (by omega)]; exact m1 i hi
    · rw [g, if_neg (by omega), if_neg (by omega), if_pos ⟨rfl, rfl⟩]
  have C9 : Cs M9 a 0 0 0 0 := by
    refine ⟨?_, ?_, ?_, ?_, ?_, fun i hi => by omega⟩
    · rw [g, if_neg (by omega), if_neg (by omega), if_neg (by omega), if_neg (by omega), if_neg (by omega), if_pos ⟨rfl, rfl⟩]; rfl
    · rw [g, if_neg (by omega), if_neg (by omega), if_neg (by omega), if_neg (by omega), if_pos ⟨rfl, rfl⟩]; rfl
    · rw [g, if_neg (by omega), if_neg (by omega), if_neg (by omega), if_pos ⟨rfl, rfl⟩]; rfl
    · rw [g, if_pos ⟨rfl, rfl⟩]; rfl
    · rw [g, if_neg (by omega), if_neg (by omega), if_neg (by omega), if_neg (by omega), if_neg (by omega), if_neg (by omega), if_pos ⟨rfl, rfl⟩]; rfl
  have hT := t9.1
  refine c_loop 12 N 0 0 0 0 0 M9 R (by omega) hK (by omega) t9 C9 (Nat.zero_le _) (by omega) (by omega) (by omega) (fun M10 v r10 => ?_)
  obtain ⟨f10, r10⟩ := r10
  refine hR M10 v (fun c j q1 q2 => ?_) ?_ ?_
  · rw [f10 c j (by omega) (by omega) (by omega)]
    have : g_mi M9 c j = g_mi M1 c j := by rw [g, if_neg (by omega), if_neg (by omega), if_neg (by omega), if_neg (by omega), if_neg (by omega), if_neg (by omega), if_neg (by omega), if_neg (by omega)]
    rw [this, f1 c (by omega) (by omega) (by omega)]
  · rw [f10 _ _ (by omega) (by omega) (by omega), g, if_neg (by omega), if_neg (by omega), if_neg (by omega), if_neg (by omega), if_neg (by omega), if_neg (by omega), if_neg (by omega), if_pos ⟨rfl, rfl⟩]
  · unfold Rc RD
    split
    · rename_i e he
      rw [he] at r10; exact r10
    · rename_i cs he
      rw [he] at r10
      obtain ⟨v1, nl1, len1, h1, h2, h3, h4, h5, h6, h7, h8, h9⟩ := r10
      rw [Nat.zero_add] at h6 h7
      refine ⟨v1, h1.1, h7, h6, nl1, len1, h2, ⟨h3, h1.2⟩, h4, h5, fun j c hc => ?_⟩
      have := h9 j c hc
      rw [Nat.zero_add] at this
      exact this
end RDS
