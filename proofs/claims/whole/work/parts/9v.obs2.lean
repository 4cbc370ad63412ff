/-! Calls: changes, undo. -/
theorem mem_psh {H : List ((Nat → Int) × Int)} {e x : (Nat → Int) × Int} (h : e ∈ pshH H x) : e ∈ H ∨ e = x := by
  unfold pshH at h
  split at h
  · rcases List.mem_append.mp h with z | z
    · exact Or.inl z
    · exact Or.inr (List.mem_singleton.mp z)
  · rcases List.mem_append.mp h with z | z
    · exact Or.inl (List.mem_of_mem_drop z)
    · exact Or.inr (List.mem_singleton.mp z)
section PVA
variable {r : Nat → Int} {lw : LWs} {H : List ((Nat → Int) × Int)} {im : Nat → Option (Nat → Int)} {ilw : Nat → LWs} {cs : List (Nat × Cl)} {kind : Nat} {x : Int}
theorem PVs.ac (hp : PVs r lw H im ilw) (hk : kind ≤ 4) : PVs (acA cs r kind x).2 lw (ansH H r kind (acA cs r kind x).1) im ilw := by
  obtain ⟨hv, hl, hh, hi⟩ := hp
  have hhi := fun i (h : 188 ≤ i) => acA_hi (cs := cs) (kind := kind) (x := x) hv.k h
  refine ⟨hv.up (acA_V hv.k) (acA_T hv.k hv.t) (fun i h1 _ => hhi i h1), VL.up hv hl (fun i h1 _ => hhi i (by omega)), fun e he => ?_, hi⟩
  rw [hhi 200 (by omega), hhi 201 (by omega)]
  unfold ansH at he
  split at he
  · rcases mem_psh he with z | z
    · exact hh e z
    · rw [z]; exact ⟨⟨hv.k, hv.t, by dsimp only; omega, by dsimp only; omega⟩, rfl, rfl⟩
  · exact hh e he
end PVA
section OBC
variable {X : gX} {A : Nat} {k1 k2 : gK} {av : List Value} {P9 : gM → (Int32 → gM → Prop) → Prop} {kind : Nat} {x : Int}
/-- the class's part of a change -/
theorem IC.ch {M M1 : gM} {f1 : Nat} {r r2 : Nat → Int} {lw : LWs} {H H2 : List ((Nat → Int) × Int)} {im : Nat → Option (Nat → Int)} {ilw : Nat → LWs} {bt : Nat → Int} {ln : Nat} {fr fr2 dr ms : Nat → Int32} {a : Int32} (hv : Vr r) (hc : IC M A r lw H im ilw bt ln fr dr ms) (hs : Sl M M1) (k : Fch A M M1) (hS : RS M1 (A + 1 + 1) r2) (e : ∀ i, 188 ≤ i → i < 205 → r2 i = r i) (hH : RHf M1 (A + 13) f1 H2) (h16 : g_mi M1 A 16 = a) (hf : Rfs M1 A fr2) : IC M1 A r2 lw H2 im ilw bt ln fr2 dr (va_up ms 0 a) := by
  obtain ⟨a1, a2, a3, a4, ⟨f, g1, g2⟩, a6, a7, a8, a9, a10, a11, a12, a13⟩ := hc
  have kk : ∀ c, (c < A ∨ A < c) → (c < A + 2 ∨ A + 8 < c) → (c < A + 13 ∨ A + 134 < c) → (c < A + 271 ∨ A + 281 < c) → c ≠ A + 304 → g_mi M1 c = g_mi M c := fun c q0 q1 q2 q3 q4 => by funext j; exact k c j q1 q2 q3 q4 (by omega)
  refine ⟨Ph.sl hs a1, a2.st hv hs hS e (kk _ (by omega) (by omega) (by omega) (by omega) (by omega)) (fun c q1 q2 => kk c (by omega) (by omega) (by omega) (by omega) (by omega)) (fun c q => kk c (by omega) (by omega) (by omega) (by omega) (by omega)), a3.keep hs (fun c q1 q2 => kk c (by omega) (by omega) (by omega) (by omega) (by omega)), ⟨f1, hH⟩, ⟨f, g1, by rw [kk _ (by omega) (by omega) (by omega) (by omega) (by omega)]; exact g2⟩, a6.keep hs (fun c q1 q2 => kk c (by omega) (by omega) (by omega) (by omega) (by omega)) (fun c q => kk c (by omega) (by omega) (by omega) (by omega) (by omega)), ?_, hf, fun i hi => by rw [kk _ (by omega) (by omega) (by omega) (by omega) (by omega)]; exact a9 i hi, h16, ?_, ?_, ?_⟩
  · unfold Cb at a7 ⊢
    rw [kk (A + 282) (by omega) (by omega) (by omega) (by omega) (by omega), kk (A + 282 + 1) (by omega) (by omega) (by omega) (by omega) (by omega)]
    exact a7
  · rw [kk _ (by omega) (by omega) (by omega) (by omega) (by omega)]; exact a11
  · rw [k A 15 (by omega) (by omega) (by omega) (by omega) (by omega)]; exact a12
  · rw [k A 14 (by omega) (by omega) (by omega) (by omega) (by omega)]; exact a13
theorem IR.ch {M M1 : gM} {b : Nat} {r r2 : Nat → Int} {H H2 : List ((Nat → Int) × Int)} {im : Nat → Option (Nat → Int)} {bt : Nat → Int} {ln : Nat} {fr fr2 dr ms : Nat → Int32} {a : Int32} (hr : IR M b r H im bt ln fr dr ms) (hs : Sl M M1) (k : ∀ c j, c ≠ b + 1 → c ≠ b + 2 → c ≠ b + 5 → c ≠ b + 19 → (c < b + 12 ∨ b + 18 < c) → (c ≠ b ∨ (j ≠ 0 ∧ j ≠ 22 ∧ j ≠ 23 ∧ j ≠ 24 ∧ j ≠ 25 ∧ j ≠ 35 ∧ j ≠ 38)) → g_mi M1 c j = g_mi M c j) (hR : Rr M1 b r2) (hH : RLh M1 b H2) (h0 : g_mi M1 b 0 = a) (hf : Rfm M1 b fr2) : IR M1 b r2 H2 im bt ln fr2 dr (va_up ms 0 a) := by
  obtain ⟨a1, a2, a3, a4, ⟨a5, a6, a7⟩, a8, a9, a10, a11, a12, a13⟩ := hr
  have kk : ∀ c, c ≠ b → c ≠ b + 1 → c ≠ b + 2 → c ≠ b + 5 → c ≠ b + 19 → (c < b + 12 ∨ b + 18 < c) → g_mi M1 c = g_mi M c := fun c q0 q1 q2 q3 q4 q5 => by funext j; exact k c j q1 q2 q3 q4 q5 (by omega)
  have k0 : ∀ j, (j = 6 ∨ j = 13 ∨ j = 14 ∨ j = 40 ∨ j = 48) → g_mi M1 b j = g_mi M b j := fun j q => k b j (by omega) (by omega) (by omega) (by omega) (by omega) (by omega)
  refine ⟨Mo.sl hs a1, hR, hH, ?_, ⟨?_, by rw [k0 13 (by omega)]; exact a6, ?_⟩, hf, ?_, h0, by rw [k0 14 (by omega)]; exact a11, by rw [k0 6 (by omega)]; exact a12, by rw [k0 40 (by omega)]; exact a13⟩
  · unfold rI at a4 ⊢
    rw [kk (b + 4) (by omega) (by omega) (by omega) (by omega) (by omega) (by omega), kk (b + 3) (by omega) (by omega) (by omega) (by omega) (by omega) (by omega)]; exact a4
  · unfold Mb at a5 ⊢
    rw [kk (b + 7) (by omega) (by omega) (by omega) (by omega) (by omega) (by omega)]; exact a5
  · unfold Vw at a7 ⊢
    rw [kk (b + 6) (by omega) (by omega) (by omega) (by omega) (by omega) (by omega)]; exact a7
  · unfold rD at a9 ⊢
    rw [k0 48 (by omega), kk (b + 23) (by omega) (by omega) (by omega) (by omega) (by omega) (by omega)]; exact a9
theorem ob_ch (hk : kind ≤ 4) (b1 : -2147483648 ≤ x) (b2 : x < 2147483648) (h8 : ∀ (M : gM) (R : Int32 → gM → Prop) (Q : Option Value → gM → Prop), Ph M A → pX8_change 20000 1290 M A (iZ kind) (iZ x) R → (∀ v M1, Sl M M1 → R v M1 → Q (some (.int v)) M1) → Cn X 1311 0 0 k1 (.ref A :: av) M Q) (h9 : ∀ (M : gM) (R : Int32 → gM → Prop) (Q : Option Value → gM → Prop), Mo M (A + 329) → P9 M (fun v1 M1 => pX9_goodOr 20000 1290 M1 (A + 329) v1 (fun v2 M2 => R v2 M2)) → (∀ v M1, Sl M M1 → R v M1 → Q (some (.int v)) M1) → Cn X 1311 0 0 k2 (.ref (A + 329) :: av) M Q) (hP : ∀ (M : gM) (R : Int32 → gM → Prop) (r : Nat → Int) (cs : List (Nat × Cl)) (H : List ((Nat → Int) × Int)), Vr r → FL r cs → Rr M (A + 329) r → RLh M (A + 329) H → (∀ M1, Fak (A + 329) M M1 → Rr M1 (A + 329) (acA cs r kind x).2 → RLh M1 (A + 329) (ansH H r kind (acA cs r kind x).1) → R (iZ (acA cs r kind x).1) M1) → P9 M R) : Ob X 1311 0 0 k1 k2 (INV A) A (A + 329) av := by
  refine ob_gen (P9 := fun M R => P9 M (fun v1 M1 => pX9_goodOr 20000 1290 M1 (A + 329) v1 (fun v2 M2 => R v2 M2))) h8 h9 (fun M r lw H im ilw bt ln fr dr ms hp hc => ?_)
  obtain ⟨f, hf⟩ := hc.2.2.2.1
  have hp2 := PVs.ac (cs := lwA lw (r 204)) (kind := kind) (x := x) hp hk
  have hb := acA_b (cs := lwA lw (r 204)) (kind := kind) (x := x) hp.1.k
  have hn := fun h => acA_n (cs := lwA lw (r 204)) (kind := kind) (x := x) hp.1.k h
  have hhi := fun i (h : 188 ≤ i) => acA_hi (cs := lwA lw (r 204)) (kind := kind) (x := x) hp.1.k h
  have hP2 := fun M R => hP M R r (lwA lw (r 204)) H hp.1 hp.fl
  refine ch_8 (cs := lwA lw (r 204)) (by omega) hp.1.k hp.1.t hp.1.m hc.rs (hc.fc hp) hf hc.2.2.2.2.2.2.2.1 hk b1 b2 (fun M1 f1 k1 S1 H1 s1 r1 => ?_)
  generalize acA (lwA lw (r 204)) r kind x = a at *
  refine ⟨fun c q1 q2 => by funext j; exact k1 c j (by omega) (by omega) (by omega) (by omega) (by omega), a.2, lw, ansH H r kind a.1, im, ilw, bt, ln, _, dr, _, hp2, fun s => hc.ch hp.1 s k1 S1 (fun i h1 _ => hhi i h1) H1 s1 r1, fun M2 hr => ?_⟩
  refine hP2 M2 _ hr.2.1 hr.2.2.1 (fun M3 k3 R3 H3 => ?_)
  have f3 : Rfm M3 (A + 329) fr := by
    have := hr.2.2.2.2.2.1
    unfold Rfm at this ⊢
    rw [k3 _ _ (by omega) (by omega) (by omega) (by omega) (by omega), k3 _ _ (by omega) (by omega) (by omega) (by omega) (by omega), k3 _ _ (by omega) (by omega) (by omega) (by omega) (by omega), k3 _ _ (by omega) (by omega) (by omega) (by omega) (by omega), k3 _ _ (by omega) (by omega) (by omega) (by omega) (by omega)]
    exact this
  refine gO_9 f3 (by omega) (by omega) (fun h => by have := (hn h).2; unfold isR; omega) (fun M4 k4 s4 r4 => ⟨rfl, fun c q => ?_, fun s => ?_⟩)
  · funext j
    rw [k4 c j (by omega) (by omega), k3 c j (by omega) (by omega) (by omega) (by omega) (by omega)]
  · refine hr.ch s (fun c j q1 q2 q3 q4 q5 q6 => by rw [k4 c j (by omega) q1, k3 c j q2 (by omega) q4 q5 (by omega)]) (fun i hi => by rw [k4 _ _ (by omega) (by omega)]; exact R3 i hi) (H3.keep (k4 _ _ (by omega) (by omega)) (by funext j; exact k4 _ _ (by omega) (by omega))) s4 r4
end OBC
section OB2
variable {X : gX} {A : Nat} {x1 : Int32}
theorem ob_add : Ob X 1311 0 0 kX8_add kX9_add (INV A) A (A + 329) [.int x1] := by
  obtain ⟨x, rfl, b1, b2⟩ := i32x x1
  exact ob_ch (kind := 0) (P9 := fun M R => pX9_addsKept 20000 1290 M (A + 329) (iZ x) R) (by omega) b1 b2 (fun M R Q s hh hR => uX8_add (d := 1304) s hh (fun v M1 j h => hR v M1 j.l h)) (fun M R Q s hh hR => Cn.cd (show 10 + 1290 + 11 = 1311 by omega) (uX9_add (d := 10) (K := 1290) s hh (fun v M1 j h => hR v M1 j.l h))) (fun M R r cs H hv hF hR hH hE => kA_9 (by omega) (by omega) hv.k hv.m hR hF hH b1 b2 hE)
theorem ob_take : Ob X 1311 0 0 kX8_take kX9_take (INV A) A (A + 329) [.int x1] := by
  obtain ⟨x, rfl, b1, b2⟩ := i32x x1
  exact ob_ch (kind := 1) (P9 := fun M R => pX9_takesKept 20000 1290 M (A + 329) (iZ x) R) (by omega) b1 b2 (fun M R Q s hh hR => uX8_take (d := 1304) s hh (fun v M1 j h => hR v M1 j.l h)) (fun M R Q s hh hR => uX9_take (d := 1306) s hh (fun v M1 j h => hR v M1 j.l h)) (fun M R r cs H hv hF hR hH hE => kT_9 (by omega) hv.k hR hH b1 b2 hE)
theorem ob_side : Ob X 1311 0 0 kX8_side kX9_side (INV A) A (A + 329) [.int x1] := by
  obtain ⟨x, rfl, b1, b2⟩ := i32x x1
  exact ob_ch (kind := 2) (P9 := fun M R => pX9_sideKept 20000 1290 M (A + 329) (iZ x) R) (by omega) b1 b2 (fun M R Q s hh hR => uX8_side (d := 1304) s hh (fun v M1 j h => hR v M1 j.l h)) (fun M R Q s hh hR => uX9_side (d := 1308) s hh (fun v M1 j h => hR v M1 j.l h)) (fun M R r cs H hv hF hR hH hE => kS_9 (by omega) hv.k hR hH b1 b2 hE)
theorem ob_seed : Ob X 1311 0 0 kX8_seed kX9_seed (INV A) A (A + 329) [.int x1] := by
  obtain ⟨x, rfl, b1, b2⟩ := i32x x1
  exact ob_ch (kind := 3) (P9 := fun M R => pX9_seedKept 20000 1290 M (A + 329) (iZ x) R) (by omega) b1 b2 (fun M R Q s hh hR => uX8_seed (d := 1304) s hh (fun v M1 j h => hR v M1 j.l h)) (fun M R Q s hh hR => uX9_seed (d := 1307) s hh (fun v M1 j h => hR v M1 j.l h)) (fun M R r cs H hv hF hR hH hE => kE_9 (by omega) hv.k hR hH b1 b2 hE)
theorem ob_build : Ob X 1311 0 0 kX8_build kX9_build (INV A) A (A + 329) [] := by
  exact ob_ch (kind := 4) (x := 0) (P9 := fun M R => pX9_buildsKept 20000 1290 M (A + 329) R) (by omega) (by omega) (by omega) (fun M R Q s hh hR => uX8_build (d := 1304) s hh (fun v M1 j h => hR v M1 j.l h)) (fun M R Q s hh hR => Cn.cd (show 9 + 1290 + 12 = 1311 by omega) (uX9_build (d := 9) (K := 1290) s hh (fun v M1 j h => hR v M1 j.l h))) (fun M R r cs H hv hF hR hH hE => kB_9 (by omega) (by omega) hv.k hv.m hR hF hH hE)
theorem ob_undo : Ob X 1311 0 0 kX8_undo kX9_undo (INV A) A (A + 329) [] := by
  refine ob_gen (P8 := fun M R => pX8_undo 20000 1290 M A R) (P9 := fun M R => pX9_undo 20000 1290 M (A + 329) R) (fun M R Q s hh hR => uX8_undo (d := 1307) s hh (fun v M1 j h => hR v M1 j.l h)) (fun M R Q s hh hR => uX9_undo (d := 1310) s hh (fun v M1 j h => hR v M1 j.l h)) (fun M r lw H im ilw bt ln fr dr ms hp hc => ?_)
  obtain ⟨f, hf⟩ := hc.2.2.2.1
  have hv := hp.1
  refine un_8 hc.rs hf (fun e he => (hp.2.2.1 e he).1) hc.2.2.2.2.2.2.2.1 (fun z M1 k1 s1 r1 => ?_) (fun M1 e he k1 H1 S1 s1 => ?_)
  · refine ⟨fun c q1 q2 => by funext j; exact k1 c j (by omega) (by omega), r, lw, H, im, ilw, bt, ln, _, dr, _, hp, fun s => hc.ch hv s (fun c j q1 q2 q3 q4 q5 => k1 c j q4 q5) (hc.rs.keep (fun c q1 q2 => by funext j; exact k1 c j (by omega) (by omega))) (fun _ _ _ => rfl) (hf.keep (fun c q1 q2 => by funext j; exact k1 c j (by omega) (by omega))) s1 r1, fun M2 hr => ?_⟩
    have hl : ∀ (j : Nat) y, H[j]? = some y → False := fun j y hj => by
      have := (List.getElem?_eq_some_iff.mp hj).1
      omega
    refine un_9 (by omega) hr.2.1 hr.2.2.1 hr.2.2.2.2.2.1 (fun _ M3 k3 s3 r3 => ⟨rfl, fun c q => by funext j; exact k3 c j (by omega) (by omega), fun s => ?_⟩) (fun M3 y hy => (hl _ _ hy).elim)
    exact hr.ch s (fun c j q1 q2 q3 q4 q5 q6 => k3 c j (by omega) q1) (fun i hi => by rw [k3 _ _ (by omega) (by omega)]; exact hr.2.1 i hi) (hr.2.2.1.keep (k3 _ _ (by omega) (by omega)) (by funext j; exact k3 _ _ (by omega) (by omega))) s3 r3
  · have hm := List.mem_of_getElem? he
    obtain ⟨⟨e1, e2, e3, e4⟩, e5, e6⟩ := hp.2.2.1 e hm
    have Vk2 : Vk (mixR e.1 r) := by
      refine e1.up (fun i hi => mix_lo (by omega)) ?_ ?_ ?_ ?_ ?_ ?_
      all_goals rw [mix_lo (by omega)]
      · exact e1.2.2.2.2.1
      · exact e1.2.2.2.2.2.1
      · exact e1.2.2.2.2.2.2.1
      · exact e1.2.2.2.2.2.2.2.1
      · exact e1.2.2.2.2.2.2.2.2.1
      · exact e1.2.2.2.2.2.2.2.2.2
    have hp2 : PVs (mixR e.1 r) lw (H.take (H.length - 1)) im ilw := by
      refine ⟨hv.up Vk2 (e2.cg (fun i h1 h2 => mix_lo (by omega))) (fun i h1 _ => mix_hi h1), VL.up hv hp.2.1 (fun i h1 _ => mix_hi (by omega)), fun y hy => ?_, hp.2.2.2⟩
      rw [mix_hi (by omega), mix_hi (by omega)]
      exact hp.2.2.1 y (List.mem_of_mem_take hy)
    refine ⟨fun c q1 q2 => by funext j; exact k1 c j (by omega) (by omega) (by omega), mixR e.1 r, lw, H.take (H.length - 1), im, ilw, bt, ln, fr, dr, _, hp2, fun s => hc.ch hv s (fun c j q1 q2 q3 q4 q5 => k1 c j q1 (by omega) q5) (S1.cg e1 e2 (fun i hi => mix_lo hi) (by rw [mix_hi (by omega), e5]) (by rw [mix_hi (by omega), e6])) (fun i h1 _ => mix_hi h1) H1 s1 (fun i hi => by rw [k1 _ _ (by omega) (by omega) (by omega)]; exact hc.2.2.2.2.2.2.2.1 i hi), fun M2 hr => ?_⟩
    have hl : H.length = 0 → False := fun z => by
      have := (List.getElem?_eq_some_iff.mp he).1
      omega
    refine un_9 (by omega) hr.2.1 hr.2.2.1 hr.2.2.2.2.2.1 (fun z => (hl z).elim) (fun M3 y hy k3 s3 R3 H3 => ?_)
    have ey : y = e := by rw [he] at hy; exact (Option.some.inj hy).symm
    subst ey
    refine ⟨rfl, fun c q => by funext j; exact k3 c j (by omega) (by omega), fun s => ?_⟩
    refine hr.ch s (fun c j q1 q2 q3 q4 q5 q6 => k3 c j q2 (by omega)) R3 H3 s3 ?_
    have := hr.2.2.2.2.2.1
    unfold Rfm at this ⊢
    rw [k3 _ _ (by omega) (by omega), k3 _ _ (by omega) (by omega), k3 _ _ (by omega) (by omega), k3 _ _ (by omega) (by omega), k3 _ _ (by omega) (by omega)]
    exact this
end OB2
