/-! Whole texts: clauses. The reference reads them. -/
/-- a clause: its head, its sum, how often, its test -/
abbrev Cl := Int × Dn × Int × Dn
abbrev Pc := Nat ⊕ (Nat × Nat × Cl)
def cTest (cd vl : Nat → Int) (o : Bool) (p l : Nat) (hd : Int) (S : Dn) (tm : Int) : Pc := if cd p = 3 then (match PP cd vl o 480 0 0 (p + 1) l (kD 0) false with
    | some (.inr y) => .inr (y.1, y.2.1, hd, S, tm, y.2.2)
    | some (.inl e) => .inl e
    | none => .inl p) else .inr (p, l, hd, S, tm, kD 1)
def cTimes (cd vl : Nat → Int) (o : Bool) (p l : Nat) (hd : Int) (S : Dn) : Pc := if o = true ∧ cd p = 22 then (if cd (p + 1) = 50 ∧ 1 ≤ vl (p + 1) ∧ vl (p + 1) ≤ 20 then cTest cd vl o (p + 2) l hd S (vl (p + 1)) else .inl (p + 1)) else cTest cd vl o p l hd S 1
def cSum (cd vl : Nat → Int) (o : Bool) (p l : Nat) : Pc := match PP cd vl o 480 6 0 (p + 1) l (kD 0) false with
    | some (.inr y) => cTimes cd vl o y.1 y.2.1 (cd p) y.2.2
    | some (.inl e) => .inl e
    | none => .inl p
abbrev hdS (o : Bool) (c : Int) : Prop := (o = false ∧ c = 1) ∨ (o = true ∧ (c = 18 ∨ c = 19 ∨ c = 20 ∨ c = 10))
abbrev hdN (o : Bool) (c : Int) : Prop := (o = false ∧ c = 2) ∨ (o = true ∧ c = 21)
def RC (cd vl : Nat → Int) (o : Bool) (p l : Nat) : Pc := if hdS o (cd p) then cSum cd vl o p l else if hdN o (cd p) then cTimes cd vl o (p + 1) l (cd p) (kD 0) else .inl p
/-- all clauses (r: how many may still come), and what comes behind one -/
def RA (cd vl : Nat → Int) (o : Bool) (T : Nat) : Nat → Nat → Nat → Nat ⊕ List (Nat × Cl)
  | 0, p, _ => .inl p
  | r + 1, p, l => match RC cd vl o p l with
    | .inl e => .inl e
    | .inr y => if cd y.1 = 159 then (match RA cd vl o T r (y.1 + 1) y.2.1 with
        | .inl e => .inl e
        | .inr cs => .inr ((p, y.2.2) :: cs)) else if y.1 < T then .inl y.1 else .inr [(p, y.2.2)]
def RB (cd vl : Nat → Int) (o : Bool) (T r p l : Nat) : Nat ⊕ List (Nat × Cl) := if cd p = 159 then RA cd vl o T r (p + 1) l else if p < T then .inl p else .inr []
theorem PPs {cd vl : Nat → Int} {o : Bool} {T h p l : Nat} {a : Dn} {q : Bool} (h0 : cd T = 0) (hT : T ≤ 400) (h11 : h ≤ 11) (hp : p ≤ T) (hl : l ≤ 50) : ∃ res, PP cd vl o 480 h 0 p l a q = some res := by
  have : rnk h ≤ 8 := by
    unfold rnk
    repeat' split
    all_goals decide
  have := PP_tot (vl := vl) (o := o) h0 480 h 0 p l a q h11 hp hl (by omega) (by omega)
  cases hh : PP cd vl o 480 h 0 p l a q with
  | none => exact absurd hh this
  | some res => exact ⟨res, rfl⟩
/-- what the reference's memory shows behind a clause -/
def Po2 (M1 : gM) (b : Nat) (pl : Nat → Int) (T l : Nat) (res : Pc) : Prop := match res with
  | .inl e => g_mi M1 b 21 = iZ (pl e) ∧ e ≤ T
  | .inr y => Pa M1 b y.1 y.2.1 ∧ y.1 ≤ T ∧ y.2.1 ≤ 50 ∧ l ≤ y.2.1
theorem Po2.l {M1 : gM} {b : Nat} {pl : Nat → Int} {T l l2 : Nat} {res : Pc} (h : Po2 M1 b pl T l2 res) (hl : l ≤ l2) : Po2 M1 b pl T l res := by
  cases res with
  | inl e => exact h
  | inr y => exact ⟨h.1, h.2.1, h.2.2.1, Nat.le_trans hl h.2.2.2⟩
section MT
variable {N K b : Nat} {cd vl pl : Nat → Int} {T : Nat} {o : Bool} {M : gM} {p l : Nat}
theorem pl_bad {M0 M1 : gM} {e : Nat} (ht : Tk M0 b cd vl pl T) (he : e ≤ T) (h : g_mi M1 b 21 = iZ (pl e)) : g_mi M1 b 21 ≠ iZ (-1) := by
  obtain ⟨_, _, _, _, _, _, _, h1, h2⟩ := ht.2.2 e he
  rw [h]
  exact pl_ne h1 h2
theorem m_test {R : gM → Prop} {hd : Int} {S : Dn} {tm : Int} (hK : 500 ≤ K) (ht : Tk M b cd vl pl T) (hL : Lg M b o) (hP : Pa M b p l) (hp : p ≤ T) (hl : l ≤ 50) (hR : ∀ M1, Fx b M M1 → Po2 M1 b pl T l (cTest cd vl o p l hd S tm) → R M1) : pX9_takes0 N K M b 3 (fun v2 M3 => ((v2 = 0 → R M3) ∧ (¬ v2 = 0 → pX9_readTest N K M3 b 0 (fun M4 => R M4)))) := by
  unfold cTest at hR
  refine takes_ok (c := 3) ht hP hp (by omega) (by omega) (fun c M1 f1 P1 => ⟨fun z => absurd z one0, fun _ => ?_⟩) (fun c => ⟨fun _ => ?_, fun z => absurd rfl z⟩)
  · rw [if_pos c] at hR
    have pp := tk_lt ht.2.1 hp (by omega)
    obtain ⟨res, hres⟩ := PPs (vl := vl) (o := o) (h := 0) (a := kD 0) (q := false) ht.2.1 ht.1 (by decide) pp hl
    rw [hres] at hR
    have hx := PP_in ht.2.1 _ _ _ _ _ _ _ _ (by decide) hres pp hl
    refine RP_all 480 0 0 (p + 1) l (kD 0) false res (by decide) hres K M1 _ (by omega) (ht.fx f1) (hL.fx f1) P1 pp hl (by omega) (fun M2 f2 o2 => hR M2 (f1.tr f2) ?_)
    cases res with
    | inl e => exact ⟨o2, hx.2⟩
    | inr y => exact ⟨o2, hx.2.1, hx.2.2.2, hx.2.2.1⟩
  · rw [if_neg c] at hR
    exact hR M Fx.rf ⟨hP, hp, hl, Nat.le_refl _⟩
theorem m_bad {R : gM → Prop} (hb : g_mi M b 21 ≠ iZ (-1)) (h : R M) : pX9_takes0 N K M b 3 (fun v2 M3 => ((v2 = 0 → R M3) ∧ (¬ v2 = 0 → pX9_readTest N K M3 b 0 (fun M4 => R M4)))) := takes_bad hb ⟨fun _ => h, fun z => absurd rfl z⟩
theorem m_times {R : gM → Prop} {hd : Int} {S : Dn} (hK : 500 ≤ K) (ht : Tk M b cd vl pl T) (hL : Lg M b o) (ho : o = true) (hP : Pa M b p l) (hp : p ≤ T) (hl : l ≤ 50) (hR : ∀ M1, Fx b M M1 → Po2 M1 b pl T l (cTimes cd vl o p l hd S) → R M1) : pX9_readOrder_50 N K R M b := by
  unfold cTimes at hR
  unfold pX9_readOrder_50 pX9_readOrder_66 pX9_readOrder_79
  refine takes_ok (c := 22) ht hP hp (by omega) (by omega) (fun c M1 f1 P1 => ⟨fun z => absurd z one0, fun _ => ?_⟩) (fun c => ⟨fun _ => ?_, fun z => absurd rfl z⟩)
  · rw [if_pos ⟨ho, c⟩] at hR
    have pp := tk_lt ht.2.1 hp (by omega)
    refine mnum_ok (x := 1) (y := 20) (ht.fx f1) P1 pp (by omega) (by omega) (by omega) (by omega) (fun w M2 f2 P2 => ?_) (fun w M2 f2 e2 => ?_)
    · rw [if_pos w] at hR
      have p2 := tk_lt (p := p + 1) ht.2.1 pp (by omega)
      exact m_test hK (ht.fx (f1.tr f2)) (hL.fx (f1.tr f2)) P2 p2 hl (fun M3 f3 o3 => hR M3 ((f1.tr f2).tr f3) o3)
    · rw [if_neg w] at hR
      exact m_bad (pl_bad ht pp e2) (hR M2 (f1.tr f2) ⟨e2, pp⟩)
  · rw [if_neg (fun z => c z.2)] at hR
    exact m_test hK ht hL hP hp hl hR
theorem m_tbad {R : gM → Prop} (hb : g_mi M b 21 ≠ iZ (-1)) (h : R M) : pX9_readOrder_50 N K R M b := by
  unfold pX9_readOrder_50 pX9_readOrder_66 pX9_readOrder_79
  exact takes_bad hb ⟨fun _ => m_bad hb h, fun z => absurd rfl z⟩
/-- one clause -/
theorem m_one {R : gM → Prop} (hK : 500 ≤ K) (ht : Tk M b cd vl pl T) (hL : Lg M b o) (hP : Pa M b p l) (hp : p ≤ T) (hl : l ≤ 50) (hR : ∀ M1, Fx b M M1 → Po2 M1 b pl T l (RC cd vl o p l) → R M1) : pX9_readOne N K M b R := by
  unfold pX9_readOne
  rw [hL.2.2, iB_0]
  -- the sum, and what comes behind it
  have sum : ∀ (Q : gM → Prop), hdS o (cd p) → ∀ M1, Fx b M M1 → Pa M1 b (p + 1) l → (∀ M2 p2 l2 S, Fx b M M2 → Pa M2 b p2 l2 → p2 ≤ T → l2 ≤ 50 → l ≤ l2 → RC cd vl o p l = cTimes cd vl o p2 l2 (cd p) S → Q M2) → (∀ M2 e, Fx b M M2 → g_mi M2 b 21 = iZ (pl e) → e ≤ T → RC cd vl o p l = .inl e → Q M2) → pX9_readSum N K M1 b 0 Q := fun Q hc M1 f1 P1 h1 h2 => by
    have pp := tk_lt ht.2.1 hp (by omega)
    obtain ⟨res, hres⟩ := PPs (vl := vl) (o := o) (h := 6) (a := kD 0) (q := false) ht.2.1 ht.1 (by decide) pp hl
    have hx := PP_in ht.2.1 _ _ _ _ _ _ _ _ (by decide) hres pp hl
    have e1 : RC cd vl o p l = cSum cd vl o p l := by unfold RC; rw [if_pos hc]
    unfold cSum at e1
    rw [hres] at e1
    refine RP_all 480 6 0 (p + 1) l (kD 0) false res (by decide) hres K M1 _ (by omega) (ht.fx f1) (hL.fx f1) P1 pp hl (by omega) (fun M2 f2 o2 => ?_)
    cases res with
    | inl e => exact h2 M2 e (f1.tr f2) o2 hx.2 e1
    | inr y => exact h1 M2 y.1 y.2.1 y.2.2 (f1.tr f2) o2 hx.2.1 hx.2.2.2 hx.2.2.1 e1
  refine ⟨fun ho => ?_, fun ho => ?_⟩
  · subst ho
    unfold pX9_readClause
    refine takes_ok (c := 1) ht hP hp (by omega) (by omega) (fun c M1 f1 P1 => ⟨fun z => absurd z one0, fun _ => ?_⟩) (fun c => ⟨fun _ => ?_, fun z => absurd rfl z⟩)
    · refine sum _ (Or.inl ⟨rfl, c⟩) M1 f1 P1 (fun M2 p2 l2 S f2 P2 hp2 hl2 hll e2 => ?_) (fun M2 e f2 g2 he e2 => ?_)
      · unfold cTimes at e2
        rw [if_neg (fun z => by cases z.1)] at e2
        exact m_test hK (ht.fx f2) (hL.fx f2) P2 hp2 hl2 (fun M3 f3 o3 => hR M3 (f2.tr f3) (by rw [e2]; exact o3.l hll))
      · exact m_bad (pl_bad ht he g2) (hR M2 f2 (by rw [e2]; exact ⟨g2, he⟩))
    · have n1 : ¬ hdS false (cd p) := by simp [hdS, c]
      refine must_ok (c := 2) ht hP hp (by omega) (by omega) (fun c2 M1 f1 P1 => ?_) (fun c2 M1 f1 e1 => ?_)
      · have e2 : RC cd vl false p l = cTest cd vl false (p + 1) l (cd p) (kD 0) 1 := by
          unfold RC
          rw [if_neg n1, if_pos (Or.inl ⟨rfl, c2⟩)]
          unfold cTimes
          rw [if_neg (fun z => by cases z.1)]
        exact m_test hK (ht.fx f1) (hL.fx f1) P1 (tk_lt ht.2.1 hp (by omega)) hl (fun M3 f3 o3 => hR M3 (f1.tr f3) (by rw [e2]; exact o3))
      · have e2 : RC cd vl false p l = .inl p := by
          unfold RC
          rw [if_neg n1, if_neg (by simp [hdN, c2])]
        exact m_bad (pl_bad ht hp e1) (hR M1 f1 (by rw [e2]; exact ⟨e1, hp⟩))
  · have oo : o = true := by cases o with | true => rfl | false => exact absurd rfl ho
    have s36 : hdS o (cd p) → ∀ M1, Fx b M M1 → Pa M1 b (p + 1) l → pX9_readOrder_36 N K R M1 b := fun hc M1 f1 P1 => by
      unfold pX9_readOrder_36
      refine sum _ hc M1 f1 P1 (fun M2 p2 l2 S f2 P2 hp2 hl2 hll e2 => ?_) (fun M2 e f2 g2 he e2 => ?_)
      · exact m_times hK (ht.fx f2) (hL.fx f2) oo P2 hp2 hl2 (fun M3 f3 o3 => hR M3 (f2.tr f3) (by rw [e2]; exact o3.l hll))
      · exact m_tbad (pl_bad ht he g2) (hR M2 f2 (by rw [e2]; exact ⟨g2, he⟩))
    unfold pX9_readOrder
    refine takes_ok (c := 18) ht hP hp (by omega) (by omega) (fun c M1 f1 P1 => ⟨fun _ => s36 (Or.inr ⟨oo, Or.inl c⟩) M1 f1 P1, fun z => absurd z one0⟩) (fun c => ⟨fun z => absurd rfl z, fun _ => ?_⟩)
    refine takes_ok (c := 19) ht hP hp (by omega) (by omega) (fun c M1 f1 P1 => ⟨fun _ => s36 (Or.inr ⟨oo, Or.inr (Or.inl c)⟩) M1 f1 P1, fun z => absurd z one0⟩) (fun c2 => ⟨fun z => absurd rfl z, fun _ => ?_⟩)
    refine takes_ok (c := 20) ht hP hp (by omega) (by omega) (fun c M1 f1 P1 => ⟨fun _ => s36 (Or.inr ⟨oo, Or.inr (Or.inr (Or.inl c))⟩) M1 f1 P1, fun z => absurd z one0⟩) (fun c3 => ⟨fun z => absurd rfl z, fun _ => ?_⟩)
    refine takes_ok (c := 10) ht hP hp (by omega) (by omega) (fun c M1 f1 P1 => ⟨fun z => absurd z one0, fun _ => s36 (Or.inr ⟨oo, Or.inr (Or.inr (Or.inr c))⟩) M1 f1 P1⟩) (fun c4 => ⟨fun _ => ?_, fun z => absurd rfl z⟩)
    have n1 : ¬ hdS o (cd p) := by
      intro z
      rcases z with z | z
      · rw [oo] at z; cases z.1
      · omega
    refine must_ok (c := 21) ht hP hp (by omega) (by omega) (fun c5 M1 f1 P1 => ?_) (fun c5 M1 f1 e1 => ?_)
    · have e2 : RC cd vl o p l = cTimes cd vl o (p + 1) l (cd p) (kD 0) := by
        unfold RC
        rw [if_neg n1, if_pos (Or.inr ⟨oo, c5⟩)]
      exact m_times hK (ht.fx f1) (hL.fx f1) oo P1 (tk_lt ht.2.1 hp (by omega)) hl (fun M3 f3 o3 => hR M3 (f1.tr f3) (by rw [e2]; exact o3))
    · have e2 : RC cd vl o p l = .inl p := by
        unfold RC
        rw [if_neg n1, if_neg]
        intro z
        rcases z with z | z
        · rw [oo] at z; cases z.1
        · exact c5 z.2
      exact m_tbad (pl_bad ht hp e1) (hR M1 f1 (by rw [e2]; exact ⟨e1, hp⟩))
end MT
/-- nothing else changed, the fault aside -/
def Fy (b : Nat) (M M1 : gM) : Prop := ∀ c j, (c ≠ b ∨ (j ≠ 14 ∧ j ≠ 19 ∧ j ≠ 20 ∧ j ≠ 21)) → g_mi M1 c j = g_mi M c j
theorem Fx.y {b : Nat} {M M1 : gM} (h : Fx b M M1) : Fy b M M1 := fun c j hc => h c j (by omega)
theorem Fy.tr {b : Nat} {M M1 M2 : gM} (h : Fy b M M1) (h2 : Fy b M1 M2) : Fy b M M2 := fun c j hc => (h2 c j hc).trans (h c j hc)
/-- the answer of a reading -/
def Pz {α : Type} (M1 : gM) (b : Nat) (pl : Nat → Int) (res : Nat ⊕ α) (v : Int32) : Prop := match res with
  | .inl e => v = 0 ∧ g_mi M1 b 14 = iZ (pl e)
  | .inr _ => v = 1 ∧ g_mi M1 b 14 = iZ (-1)
section MT2
variable {N K b : Nat} {cd vl pl : Nat → Int} {T : Nat} {o : Bool}
theorem m_end {M : gM} {R : Int32 → gM → Prop} {x : Int32} {fi : Bool} (h21 : g_mi M b 21 = x) (hx : fi = true ↔ x = iZ (-1)) (hR : ∀ M1, Fy b M M1 → g_mi M1 b 14 = x → R (iB fi) M1) : ∀ M2 : gM, M2 = g_wi M b 14 (g_mi M b 21) → ∀ v4 : Int32, v4 = fX9_fine M2 b → (v4 = 0 ∨ v4 = 1) ∧ R v4 M2 := by
  intro M2 e2 v4 hv4
  have g21 : g_mi M2 b 21 = x := by rw [e2, mi_wi, if_neg (by omega)]; exact h21
  have hv : v4 = iB fi := by
    rw [hv4]
    by_cases c : x = iZ (-1)
    · rw [fine_1 (g21.trans c), hx.mpr c]; rfl
    · rw [fine_0 (by rw [g21]; exact c)]
      cases fi with
      | true => exact absurd (hx.mp rfl) c
      | false => rfl
  rw [hv]
  refine ⟨iB_o, hR M2 (fun c j hc => by rw [e2, mi_wi, if_neg (by omega)]) ?_⟩
  rw [e2, mi_wi, if_pos ⟨rfl, rfl⟩]; exact h21
theorem m_lbad {M : gM} {R : Int32 → gM → Prop} {x1 : Int32} {e : Nat} (ht : Tk M b cd vl pl T) (he : e ≤ T) (h21 : g_mi M b 21 = iZ (pl e)) (hR : ∀ M1, Fy b M M1 → g_mi M1 b 14 = iZ (pl e) → R 0 M1) (n : Nat) : qX9_reads N K R (n + 1) 0 M b x1 := by
  have hb := pl_bad ht he h21
  rw [qX9_reads]
  unfold pX9_reads_34
  intro v1 _
  refine takes_bad hb ⟨fun _ v3 hv3 => ?_, fun z => absurd rfl z⟩
  rw [fine_0 hb] at hv3
  subst hv3
  refine ⟨fun _ => m_end (fi := false) h21 ⟨fun z => (by cases z), fun z => ?_⟩ hR, fun z => absurd rfl z⟩
  rw [h21] at hb; exact absurd z hb
theorem m_loop : ∀ (r n p l : Nat) (M : gM) (R : Int32 → gM → Prop), r ≤ 11 → 500 ≤ K → r + 2 ≤ n → Tk M b cd vl pl T → Lg M b o → Pa M b p l → g_mi M b 18 = iZ T → p ≤ T → l ≤ 50 → (∀ M1 v, Fy b M M1 → Pz M1 b pl (RB cd vl o T r p l) v → R v M1) → qX9_reads N K R n 0 M b (iZ ((12 - r : Nat) : Int)) := by
  intro r
  induction r with
  | zero =>
    intro n p l M R hr hK hn ht hL hP h18 hp hl hR
    obtain ⟨m, rfl⟩ : ∃ m, n = m + 2 := ⟨n - 2, by omega⟩
    unfold RB at hR
    rw [qX9_reads]
    unfold pX9_reads_34
    intro v1 hv1
    rw [show fX9_sign 59 = iZ 159 from rfl] at hv1
    subst hv1
    refine takes_ok ht hP hp (by omega) (by omega) (fun c M1 f1 P1 => ⟨fun z => absurd z one0, fun _ => ⟨fun z => absurd rfl z, fun _ => ?_⟩⟩) (fun c => ⟨fun _ v3 hv3 => ?_, fun z => absurd rfl z⟩)
    · rw [if_pos c] at hR
      have pp := tk_lt ht.2.1 hp (by omega)
      refine faults_ok (ht.fx f1) P1.1 P1.2.2 pp (fun M2 f2 e2 _ v8 hv8 => ?_)
      rw [fine_0 (pl_bad ht pp e2)] at hv8
      subst hv8
      exact ⟨fun _ => m_lbad (ht.fx (f1.tr f2)) pp e2 (fun M3 f3 e3 => hR M3 0 ((f1.tr f2).y.tr f3) ⟨rfl, e3⟩) m, fun z => absurd rfl z⟩
    · rw [if_neg c] at hR
      rw [fine_1 hP.2.2] at hv3
      subst hv3
      have hT := ht.1
      have c18 : (g_mi M b 18 ≤ g_mi M b 19) = (T ≤ p) := by rw [h18, hP.1, iZ_le (by omega) (by omega) (by omega) (by omega)]; exact propext ⟨fun _ => by omega, fun _ => by omega⟩
      refine ⟨fun z => absurd z one0, fun _ => ?_⟩
      rw [c18]
      refine ⟨fun z => m_end (fi := true) hP.2.2 ⟨fun _ => rfl, fun _ => rfl⟩ (fun M1 f1 e1 => ?_), fun z => ?_⟩
      · rw [if_neg (by omega)] at hR
        exact hR M1 1 f1 ⟨rfl, e1⟩
      · rw [if_pos (by omega)] at hR
        refine faults_ok ht hP.1 hP.2.2 hp (fun M2 f2 e2 _ => m_end (fi := false) e2 ⟨fun z => (by cases z), fun z => absurd (e2.trans z) (pl_bad ht hp e2)⟩ (fun M3 f3 e3 => hR M3 0 (f2.y.tr f3) ⟨rfl, e3⟩))
  | succ r ih =>
    intro n p l M R hr hK hn ht hL hP h18 hp hl hR
    obtain ⟨m, rfl⟩ : ∃ m, n = m + 1 := ⟨n - 1, by omega⟩
    unfold RB at hR
    rw [qX9_reads]
    unfold pX9_reads_34
    intro v1 hv1
    rw [show fX9_sign 59 = iZ 159 from rfl] at hv1
    subst hv1
    refine takes_ok ht hP hp (by omega) (by omega) (fun c M1 f1 P1 => ⟨fun z => absurd z one0, fun _ => ⟨fun _ v7 hv7 => ?_, fun z => ?_⟩⟩) (fun c => ⟨fun _ v3 hv3 => ?_, fun z => absurd rfl z⟩)
    · rw [if_pos c] at hR
      rw [fine_1 P1.2.2] at hv7
      subst hv7
      have pp := tk_lt ht.2.1 hp (by omega)
      refine ⟨fun z => absurd z one0, fun _ => ?_⟩
      rw [iZ_s1, show 12 - (r + 1) + 1 = 12 - r by omega]
      refine m_one hK (ht.fx f1) (hL.fx f1) P1 pp hl (fun M2 f2 o2 => ?_)
      rw [RA] at hR
      have h18b : g_mi M2 b 18 = iZ T := by rw [(f1.tr f2) _ _ (Or.inr (by decide))]; exact h18
      cases hrc : RC cd vl o (p + 1) l with
      | inl e =>
        rw [hrc] at hR o2
        obtain ⟨m2, rfl⟩ : ∃ m2, m = m2 + 1 := ⟨m - 1, by omega⟩
        exact m_lbad (ht.fx (f1.tr f2)) o2.2 o2.1 (fun M3 f3 e3 => hR M3 0 ((f1.tr f2).y.tr f3) ⟨rfl, e3⟩) m2
      | inr y =>
        rw [hrc] at hR o2
        refine ih m y.1 y.2.1 M2 R (by omega) hK (by omega) (ht.fx (f1.tr f2)) (hL.fx (f1.tr f2)) o2.1 h18b o2.2.1 o2.2.2.1 (fun M3 v3 f3 o3 => hR M3 v3 ((f1.tr f2).y.tr f3) ?_)
        unfold RB at o3
        dsimp only at o3 ⊢
        split
        · rename_i c2
          rw [if_pos c2] at o3
          cases hra : RA cd vl o T r (y.1 + 1) y.2.1 with
          | inl e => rw [hra] at o3; exact o3
          | inr cs => rw [hra] at o3; exact o3
        · rename_i c2
          rw [if_neg c2] at o3
          split
          · rename_i c3; rw [if_pos c3] at o3; exact o3
          · rename_i c3; rw [if_neg c3] at o3; exact o3
    · rw [iZ_l12, iZ_eq (by omega) (by omega) (by omega) (by omega)] at z; omega
    · rw [if_neg c] at hR
      rw [fine_1 hP.2.2] at hv3
      subst hv3
      have hT := ht.1
      have c18 : (g_mi M b 18 ≤ g_mi M b 19) = (T ≤ p) := by rw [h18, hP.1, iZ_le (by omega) (by omega) (by omega) (by omega)]; exact propext ⟨fun _ => by omega, fun _ => by omega⟩
      refine ⟨fun z => absurd z one0, fun _ => ?_⟩
      rw [c18]
      refine ⟨fun z => m_end (fi := true) hP.2.2 ⟨fun _ => rfl, fun _ => rfl⟩ (fun M1 f1 e1 => ?_), fun z => ?_⟩
      · rw [if_neg (by omega)] at hR
        exact hR M1 1 f1 ⟨rfl, e1⟩
      · rw [if_pos (by omega)] at hR
        refine faults_ok ht hP.1 hP.2.2 hp (fun M2 f2 e2 _ => m_end (fi := false) e2 ⟨fun z => (by cases z), fun z => absurd (e2.trans z) (pl_bad ht hp e2)⟩ (fun M3 f3 e3 => hR M3 0 (f2.y.tr f3) ⟨rfl, e3⟩))
end MT2
