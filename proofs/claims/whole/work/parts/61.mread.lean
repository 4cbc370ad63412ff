/-! The reference reads: its parser is PP. -/
/-- tokens in the reference's rows -/
def Tk (M : gM) (b : Nat) (cd vl pl : Nat → Int) (T : Nat) : Prop := T ≤ 400 ∧ cd T = 0 ∧ ∀ i, i ≤ T → g_mi M (b + 9) i = iZ (cd i) ∧ g_mi M (b + 10) i = iZ (vl i) ∧ g_mi M (b + 11) i = iZ (pl i) ∧ 0 ≤ cd i ∧ cd i ≤ 355 ∧ 0 ≤ vl i ∧ vl i ≤ 20000000 ∧ 0 ≤ pl i ∧ pl i ≤ 400
/-- which of both languages it is -/
def Lg (M : gM) (b : Nat) (o : Bool) : Prop := g_mi M b 8 = iZ (wlo o) ∧ g_mi M b 9 = iZ (whi o) ∧ g_mi M b 10 = iB o
/-- where it is -/
def Pa (M : gM) (b p l : Nat) : Prop := g_mi M b 19 = iZ p ∧ g_mi M b 20 = iZ l ∧ g_mi M b 21 = iZ (-1)
/-- nothing else changed -/
def Fx (b : Nat) (M M1 : gM) : Prop := ∀ c j, (c ≠ b ∨ (j ≠ 19 ∧ j ≠ 20 ∧ j ≠ 21)) → g_mi M1 c j = g_mi M c j
theorem Fx.rf {b : Nat} {M : gM} : Fx b M M := fun _ _ _ => rfl
theorem Fx.tr {b : Nat} {M M1 M2 : gM} (h : Fx b M M1) (h2 : Fx b M1 M2) : Fx b M M2 := fun c j hc => (h2 c j hc).trans (h c j hc)
theorem Fx.wi {b i : Nat} {M : gM} {x : Int32} (hi : i = 19 ∨ i = 20 ∨ i = 21) : Fx b M (g_wi M b i x) := fun c j hc => by rw [mi_wi, if_neg (by omega)]
theorem Tk.fx {M M1 : gM} {b : Nat} {cd vl pl : Nat → Int} {T : Nat} (h : Fx b M M1) (e : Tk M b cd vl pl T) : Tk M1 b cd vl pl T := by
  refine ⟨e.1, e.2.1, fun i hi => ?_⟩
  rw [h _ _ (Or.inl (by omega)), h _ _ (Or.inl (by omega)), h _ _ (Or.inl (by omega))]
  exact e.2.2 i hi
theorem Lg.fx {M M1 : gM} {b : Nat} {o : Bool} (h : Fx b M M1) (e : Lg M b o) : Lg M1 b o := by
  unfold Lg
  rw [h _ _ (Or.inr (by decide)), h _ _ (Or.inr (by decide)), h _ _ (Or.inr (by decide))]
  exact e
theorem fine_1 {M : gM} {b : Nat} (h : g_mi M b 21 = iZ (-1)) : fX9_fine M b = 1 := by
  unfold fX9_fine; rw [h, if_pos (by decide)]
theorem fine_0 {M : gM} {b : Nat} (h : g_mi M b 21 ≠ iZ (-1)) : fX9_fine M b = 0 := by
  unfold fX9_fine; rw [if_neg (fun q => h (by rw [q]; decide))]
theorem one0 : ¬ (1 : Int32) = 0 := by decide
theorem pl_ne {x : Int} (h1 : 0 ≤ x) (h2 : x ≤ 400) : iZ x ≠ iZ (-1) := by rw [Ne, iZ_eq (by omega) (by omega) (by omega) (by omega)]; omega
section MR
variable {N K : Nat} {M : gM} {b : Nat} {cd vl pl : Nat → Int} {T p l : Nat} {o : Bool}
theorem tk_c (ht : Tk M b cd vl pl T) (hp : p ≤ T) : vp_in (iZ p) 401 ∧ (iZ (p : Int)).toNatClampNeg = p ∧ g_mi M (b + 9) p = iZ (cd p) ∧ g_mi M (b + 10) p = iZ (vl p) ∧ g_mi M (b + 11) p = iZ (pl p) := by
  have h4 := ht.1
  obtain ⟨h1, h2, h3, _⟩ := ht.2.2 p hp
  exact ⟨iZ_in (by omega) (by omega) (by omega), iZ_cl (by omega), h1, h2, h3⟩
theorem tk_eq (ht : Tk M b cd vl pl T) (hp : p ≤ T) {c : Int} (h1 : 0 ≤ c) (h2 : c ≤ 1000) : (iZ (cd p) = iZ c) = (cd p = c) := by
  obtain ⟨_, _, _, h3, h4, _⟩ := ht.2.2 p hp
  exact iZ_eq (by omega) (by omega) (by omega) (by omega)
theorem takes_ok {R : Int32 → gM → Prop} (ht : Tk M b cd vl pl T) (hP : Pa M b p l) (hp : p ≤ T) {c : Int} (h1 : 0 < c) (h2 : c ≤ 1000) (hy : cd p = c → ∀ M1, Fx b M M1 → Pa M1 b (p + 1) l → R 1 M1) (hn : cd p ≠ c → R 0 M) : pX9_takes0 N K M b (iZ c) R := by
  obtain ⟨b1, b2, b3, b4, b5⟩ := tk_c ht hp
  unfold pX9_takes0
  intro v1 hv
  rw [fine_1 hP.2.2] at hv
  subst hv
  refine ⟨fun q => absurd q one0, fun _ => ?_⟩
  rw [hP.1, b2, b3, tk_eq ht hp (by omega) h2]
  refine ⟨b1, fun q => hn q, fun q M1 hM => hy q M1 (by rw [hM]; exact Fx.wi (by decide)) ?_⟩
  rw [hM]
  refine ⟨by rw [mi_wi, if_pos ⟨rfl, rfl⟩, iZ_s1], ?_, ?_⟩
  · rw [mi_wi, if_neg (by omega)]; exact hP.2.1
  · rw [mi_wi, if_neg (by omega)]; exact hP.2.2
theorem takes_bad {R : Int32 → gM → Prop} {x : Int32} (hb : g_mi M b 21 ≠ iZ (-1)) (h : R 0 M) : pX9_takes0 N K M b x R := by
  unfold pX9_takes0
  intro v1 hv
  rw [fine_0 hb] at hv
  subst hv
  exact ⟨fun _ => h, fun q => absurd rfl q⟩
theorem faults_ok {R : gM → Prop} (ht : Tk M b cd vl pl T) (h19 : g_mi M b 19 = iZ p) (h21 : g_mi M b 21 = iZ (-1)) (hp : p ≤ T) (h : ∀ M1, Fx b M M1 → g_mi M1 b 21 = iZ (pl p) → g_mi M1 b 20 = g_mi M b 20 → R M1) : pX9_faults N K M b R := by
  obtain ⟨b1, b2, b3, b4, b5⟩ := tk_c ht hp
  unfold pX9_faults
  intro v1 hv
  rw [fine_1 h21] at hv
  subst hv
  refine ⟨fun q => absurd q one0, fun _ => ?_⟩
  rw [h19, b2, b5]
  refine ⟨b1, fun M1 hM => h M1 (by rw [hM]; exact Fx.wi (by decide)) ?_ ?_⟩
  · rw [hM, mi_wi, if_pos ⟨rfl, rfl⟩]
  · rw [hM, mi_wi, if_neg (by omega)]
theorem faults_bad {R : gM → Prop} (hb : g_mi M b 21 ≠ iZ (-1)) (h : R M) : pX9_faults N K M b R := by
  unfold pX9_faults
  intro v1 hv
  rw [fine_0 hb] at hv
  subst hv
  exact ⟨fun _ => h, fun q => absurd rfl q⟩
theorem must_ok {R : gM → Prop} (ht : Tk M b cd vl pl T) (hP : Pa M b p l) (hp : p ≤ T) {c : Int} (h1 : 0 < c) (h2 : c ≤ 1000) (hy : cd p = c → ∀ M1, Fx b M M1 → Pa M1 b (p + 1) l → R M1) (hn : cd p ≠ c → ∀ M1, Fx b M M1 → g_mi M1 b 21 = iZ (pl p) → R M1) : pX9_must N K M b (iZ c) R := by
  unfold pX9_must
  refine takes_ok ht hP hp h1 h2 (fun q M1 f1 P1 => ⟨fun _ => hy q M1 f1 P1, fun q2 => absurd q2 one0⟩) (fun q => ⟨fun q2 => absurd rfl q2, fun _ => ?_⟩)
  exact faults_ok ht hP.1 hP.2.2 hp (fun M1 f1 e1 _ => hn q M1 f1 e1)
theorem must_bad {R : gM → Prop} {x : Int32} (hb : g_mi M b 21 ≠ iZ (-1)) (h : R M) : pX9_must N K M b x R := by
  unfold pX9_must
  exact takes_bad hb ⟨fun q => absurd rfl q, fun _ => faults_bad hb h⟩
theorem sg (c : Int) : fX9_sign (iZ c) = iZ (100 + c) := by
  unfold fX9_sign; rw [iZ_l100, iZ_add]
/-- a bad state: nothing more is read -/
theorem R_bad {R : Int32 → Int64 → gM → Prop} {x1 : Int32} (hb : g_mi M b 21 ≠ iZ (-1)) (hR : R 0 0 M) : (∀ n, qgMP N (n + 1) 10 M b x1 0 R) ∧ (∀ n, qgMP N (n + 1) 9 M b x1 0 R) ∧ (∀ n, qgMP N (n + 1) 7 M b x1 0 R) ∧ (∀ n, qgMP N (n + 1) 3 M b x1 0 R) ∧ (∀ n, qgMP N (n + 1) 1 M b x1 0 R) ∧ (∀ n, qgMP N (n + 1) 5 M b x1 0 R) := by
  have i10 : ∀ n, qgMP N (n + 1) 10 M b x1 0 R := fun n => by
    show pX9_readPart_0 N (qgMP N n) R M b x1
    unfold pX9_readPart_0
    intro v1 hv
    rw [fine_0 hb] at hv
    subst hv
    exact ⟨fun q => absurd rfl q, fun _ => hR⟩
  refine ⟨i10, fun n => ?_, fun n => ?_, fun n => ?_, fun n => ?_, fun n => ?_⟩
  · show pX9_readTerm_5 N (qgMP N n) R M b x1
    unfold pX9_readTerm_5
    exact fun _ _ => takes_bad hb ⟨fun q => absurd rfl q, fun _ _ _ => takes_bad hb ⟨fun q => absurd rfl q, fun _ _ _ => takes_bad hb ⟨fun _ => hR, fun q => absurd rfl q⟩⟩⟩
  · show pX9_readSum_5 N (qgMP N n) R M b x1
    unfold pX9_readSum_5
    exact fun _ _ => takes_bad hb ⟨fun q => absurd rfl q, fun _ _ _ => takes_bad hb ⟨fun _ => hR, fun q => absurd rfl q⟩⟩
  · show pX9_readBoth_5 N (qgMP N n) R M b x1
    exact takes_bad hb ⟨fun _ => hR, fun q => absurd rfl q⟩
  · show pX9_readTest_5 N (qgMP N n) R M b x1
    exact takes_bad hb ⟨fun _ => hR, fun q => absurd rfl q⟩
  · show pX9_readPlain_2 N (qgMP N n) R M b x1 0
    unfold pX9_readPlain_2
    refine ⟨fun _ v1 hv => ?_, fun q => absurd rfl q⟩
    rw [fine_0 hb] at hv
    subst hv
    exact ⟨fun q => absurd rfl q, fun _ => hR⟩
theorem R_badSum {R : Int32 → Int64 → gM → Prop} {x1 : Int32} (hb : g_mi M b 21 ≠ iZ (-1)) (hR : R 0 0 M) (n : Nat) : qgMP N (n + 3) 6 M b x1 0 R := by
  show pX9_readSum_0 N (qgMP N (n + 2)) R M b x1
  unfold pX9_readSum_0
  show pX9_readTerm_0 N (qgMP N (n + 1)) _ M b x1
  unfold pX9_readTerm_0
  refine (R_bad hb ?_).1 n
  exact (R_bad hb ((R_bad hb hR).2.2.1 (n + 1))).2.1 n
end MR
/-- what the reference's memory shows of a result -/
def Po (M1 : gM) (b : Nat) (pl : Nat → Int) (res : Pr) : Prop := match res with
  | .inl e => g_mi M1 b 21 = iZ (pl e)
  | .inr y => Pa M1 b y.1 y.2.1
def RPs (N b : Nat) (cd vl pl : Nat → Int) (T : Nat) (o : Bool) (F : Nat) : Prop := ∀ (h d p l : Nat) (a : Dn) (q : Bool) (res : Pr), h ≤ 11 → PP cd vl o F h d p l a q = some res → ∀ (n : Nat) (M : gM) (R : Int32 → Int64 → gM → Prop), F + 6 ≤ n → Tk M b cd vl pl T → Lg M b o → Pa M b p l → p ≤ T → l ≤ 50 → d ≤ 8 → (∀ M1, Fx b M M1 → Po M1 b pl res → R 0 0 M1) → qgMP N n (if h = 11 then 5 else h) M b (iZ d) (if h = 5 then 1 else 0) R
section MR2
variable {N b : Nat} {cd vl pl : Nat → Int} {T : Nat} {o : Bool} {F : Nat}
theorem Po.bad {M1 : gM} {e : Nat} {M : gM} (ht : Tk M b cd vl pl T) (he : e ≤ T) (h : Po M1 b pl (.inl e)) : g_mi M1 b 21 ≠ iZ (-1) := by
  obtain ⟨_, _, _, _, _, _, _, h1, h2⟩ := ht.2.2 e he
  have h : g_mi M1 b 21 = iZ (pl e) := h
  rw [h]
  exact pl_ne h1 h2
/-- one piece, then its loop -/
theorem RP_two (ih : RPs N b cd vl pl T o F) {h1 h2 d p l : Nat} {a : Dn} {f : Dn → Dn} {res : Pr} (u1 : h1 = 2 ∨ h1 = 4 ∨ h1 = 8 ∨ h1 = 10) (u2 : h2 = 1 ∨ h2 = 3 ∨ h2 = 7 ∨ h2 = 9) (e : thn (PP cd vl o F h1 d p l a false) (fun p2 l2 v => PP cd vl o F h2 d p2 l2 (f v) false) = some res) {n : Nat} {M : gM} {R : Int32 → Int64 → gM → Prop} (hn : F + 6 ≤ n) (ht : Tk M b cd vl pl T) (hL : Lg M b o) (hP : Pa M b p l) (hp : p ≤ T) (hl : l ≤ 50) (hd : d ≤ 8) (hR : ∀ M1, Fx b M M1 → Po M1 b pl res → R 0 0 M1) : qgMP N n h1 M b (iZ d) 0 (fun _ _ M1 => qgMP N n h2 M1 b (iZ d) 0 R) := by
  have e1 : (if h1 = 11 then 5 else h1) = h1 := if_neg (by omega)
  have e2 : (if h2 = 11 then 5 else h2) = h2 := if_neg (by omega)
  have e3 : (if h1 = 5 then (1 : Int32) else 0) = 0 := if_neg (by omega)
  have e4 : (if h2 = 5 then (1 : Int32) else 0) = 0 := if_neg (by omega)
  rcases thn_inv e with ⟨x, q1, q2⟩ | ⟨p2, l2, v, q1, q2⟩
  · have k := ih h1 d p l a false _ (by omega) q1 n M (fun _ _ M1 => qgMP N n h2 M1 b (iZ d) 0 R) hn ht hL hP hp hl hd
    rw [e1, e3] at k
    refine k (fun M1 f1 o1 => ?_)
    have hx := (PP_in ht.2.1 _ _ _ _ _ _ _ _ (by omega) q1 hp hl).2
    have hb := Po.bad ht hx o1
    subst q2
    obtain ⟨m, rfl⟩ : ∃ m, n = m + 1 := ⟨n - 1, by omega⟩
    have kb := R_bad (N := N) (x1 := iZ d) hb (hR M1 f1 o1)
    rcases u2 with u | u | u | u <;> subst u
    · exact kb.2.2.2.2.1 m
    · exact kb.2.2.2.1 m
    · exact kb.2.2.1 m
    · exact kb.2.1 m
  · have k := ih h1 d p l a false _ (by omega) q1 n M (fun _ _ M1 => qgMP N n h2 M1 b (iZ d) 0 R) hn ht hL hP hp hl hd
    rw [e1, e3] at k
    refine k (fun M1 f1 o1 => ?_)
    have hx := PP_in ht.2.1 _ _ _ _ _ _ _ _ (by omega) q1 hp hl
    have k2 := ih h2 d p2 l2 (f v) false res (by omega) q2 n M1 R hn (ht.fx f1) (hL.fx f1) o1 hx.2.1 hx.2.2.2 hd (fun M2 f2 o2 => hR M2 (f1.tr f2) o2)
    rw [e2, e4] at k2
    exact k2
end MR2
