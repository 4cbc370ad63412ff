/-! Orders: the reference runs a whole text. -/
section MO1
variable {N K b T : Nat} {r0 : Nat → Int} {law : List (Nat × Cl)} {H : HL} {cd vl : Nat → Int} {M0 : gM} {R : Int32 → gM → Prop} {x1 : Int32}
theorem o9_1 (hN : 4000 ≤ N) (hK : 500 ≤ K) (hm : bd9 (r0 201)) (hF : FL r0 law) (hO : OT r0 cd vl T) : ∀ (q p l i n : Nat) (M : gM) (s : OSt) (nn : Int) (cs : List (Nat × Cl)), RA cd vl true T q p l = .inr cs → (∀ c ∈ cs, Clb true c.2) → p ≤ T → l ≤ 50 → i + q ≤ 12 → q + 3200 ≤ n → nn + 20 * q ≤ 1000 → VO r0 nn s → Fro b M0 M → RO9 M b H s → g_mi M b 41 = iZ ((2400 + p : Nat) : Int) → (∀ u, orO law cs i s = .inl u → u < 12 → ∀ m M1 r2, 3100 ≤ m → Fro b M0 M1 → Rr M1 b r2 → (∀ i, 188 ≤ i → r2 i = r0 i) → pX9_takesBack N K M1 b 1 (fun M3 => qZ9_orders N K R m 2 M3 b x1 0 (iZ u) 0)) → (∀ s2, orO law cs i s = .inr s2 → ∀ M1, Fro b M0 M1 → RO9 M1 b H s2 → pX9_good0 N K M1 b (iZ s2.2.2.1) (fun v1 M2 => R v1 M2)) → qZ9_orders N K R n 1 M b x1 (iZ ((2400 + T : Nat) : Int)) (iZ i) 0 := by
  have hT4 := hO.1
  have h0 := hO.2.1
  intro q
  induction q with
  | zero => intro p l i n M s nn cs h; cases h
  | succ q ih =>
    intro p l i n M s nn cs hra hcs hp hl hi hn hnn hV fr ho h41 hbad hgood
    obtain ⟨m, rfl⟩ : ∃ m, n = m + 1 := ⟨n - 1, by omega⟩
    rw [RA] at hra
    cases hrc : RC cd vl true p l with
    | inl e => rw [hrc] at hra; cases hra
    | inr y =>
      rw [hrc] at hra
      dsimp only at hra
      have c0 : cd p ≠ 0 := by rcases RC_O hrc with ⟨c, _⟩ | ⟨c, _⟩ <;> omega
      have hpT := tk_lt h0 hp c0
      rw [qZ9_orders]
      rw [if_neg (by decide), if_pos rfl]
      unfold pZ9_orders_96
      rw [h41, iZ_le (by omega) (by omega) (by omega) (by omega), iZ_s1]
      refine ⟨fun z => absurd z (by omega), fun _ => ?_⟩
      -- the clauses: this one, the others
      have hcs2 : ∃ cs2, cs = (p, y.2.2) :: cs2 ∧ ((cd y.1 = 159 ∧ RA cd vl true T q (y.1 + 1) y.2.1 = .inr cs2) ∨ (T ≤ y.1 ∧ cs2 = [])) := by
        split at hra
        · rename_i c
          cases hra2 : RA cd vl true T q (y.1 + 1) y.2.1 with
          | inl e => rw [hra2] at hra; cases hra
          | inr cs2 => rw [hra2] at hra; cases hra; exact ⟨cs2, rfl, Or.inl ⟨c, rfl⟩⟩
        · split at hra
          · cases hra
          · cases hra; exact ⟨[], rfl, Or.inr ⟨by omega, rfl⟩⟩
      obtain ⟨cs2, rfl, hnx⟩ := hcs2
      have hc : Clb true y.2.2 := hcs (p, y.2.2) (List.mem_cons_self)
      rw [orO] at hbad hgood
      have hV2 := fun s2 e => VO.rn (law := law) hc y.2.2.2.2.1.toNat s nn s2 hV e
      have t20 := hc.2.2.2.1
      refine rn_9 (law := law) (R := fun v2 M2 => ((v2 = 0 → pX9_takesBack N K M2 b 1 (fun M3 => qZ9_orders N K R m 2 M3 b x1 0 (iZ i) 0)) ∧ (¬ v2 = 0 → qZ9_orders N K R m 1 M2 b x1 (iZ ((2400 + T : Nat) : Int)) (iZ ((i + 1 : Nat) : Int)) 0))) hN hK hm hF hO hp hl hrc hc (by omega) hV ho h41 (fun e M1 r2 f1 R1 e1 => ⟨fun _ => ?_, fun z => absurd rfl z⟩) (fun s2 e M1 f1 o1 y1 y2 e1 => ⟨fun z => absurd z (by decide), fun _ => ?_⟩)
      · dsimp only at hbad
        rw [e] at hbad
        exact hbad i rfl (by omega) m M1 r2 (by omega) (fr.tr f1) R1 e1
      · dsimp only at hbad hgood
        rw [e] at hbad hgood
        dsimp only at hbad hgood
        rcases hnx with ⟨c, hra2⟩ | ⟨c, rfl⟩
        · exact ih (y.1 + 1) y.2.1 (i + 1) m M1 s2 _ cs2 hra2 (fun c hc2 => hcs c (List.mem_cons_of_mem _ hc2)) (tk_lt h0 y1 (by omega)) y2 (by omega) (by omega) (by omega) (hV2 s2 e) (fr.tr f1) o1 e1 hbad hgood
        · obtain ⟨m2, rfl⟩ : ∃ m2, m = m2 + 1 := ⟨m - 1, by omega⟩
          rw [qZ9_orders]
          rw [if_neg (by decide), if_pos rfl]
          unfold pZ9_orders_96
          rw [e1, iZ_le (by omega) (by omega) (by omega) (by omega)]
          refine ⟨fun _ => ?_, fun z => absurd (by omega) z⟩
          rw [o1.2.2.1]
          exact hgood s2 rfl M1 (fr.tr f1) o1
/-- copies of what is kept, there and back -/
theorem o9_0 {x2 x3 x4 : Int32} (hE : ∀ M1 n1, 16000 ≤ n1 → (∀ c, c ≠ b + 20 → g_mi M1 c = g_mi M0 c) → (∀ j, j < 3024 → g_mi M1 (b + 20) j = g_mi M0 (b + 19) j) → pX9_lays N K M1 b 6 (fun M2 => ∀ M3 : gM, M3 = (g_wi M2 b 27 0) → ∀ M4 : gM, M4 = (g_wi M3 b 28 (-1)) → ∀ M5 : gM, M5 = (g_wi M4 b 41 2400) → qZ9_orders N K R n1 1 M5 b (g_mi M1 b 38) ((g_mi M5 b 41) + (g_mi M5 (b + 2) 211)) 0 0)) : ∀ (d i n : Nat) (M : gM) (x2 x3 x4 : Int32), i + d = 3024 → d + 16001 ≤ n → (∀ c, c ≠ b + 20 → g_mi M c = g_mi M0 c) → (∀ j, j < i → g_mi M (b + 20) j = g_mi M0 (b + 19) j) → qZ9_orders N K R n 0 M b (iZ i) x2 x3 x4 := by
  intro d
  induction d with
  | zero =>
    intro i n M x2 x3 x4 hi hn k hu
    obtain ⟨m, rfl⟩ : ∃ m, n = m + 1 := ⟨n - 1, by omega⟩
    rw [qZ9_orders]
    rw [if_pos rfl]
    unfold pZ9_orders_27
    rw [show (3024 : Int32) = iZ 3024 from rfl, iZ_le (by omega) (by omega) (by omega) (by omega)]
    exact ⟨fun _ => hE M m (by omega) k (fun j hj => hu j (by omega)), fun z => absurd (by omega) z⟩
  | succ d ih =>
    intro i n M x2 x3 x4 hi hn k hu
    obtain ⟨m, rfl⟩ : ∃ m, n = m + 1 := ⟨n - 1, by omega⟩
    rw [qZ9_orders]
    rw [if_pos rfl]
    unfold pZ9_orders_27
    rw [show (3024 : Int32) = iZ 3024 from rfl, iZ_le (by omega) (by omega) (by omega) (by omega), iZ_cl (by omega), iZ_s1]
    refine ⟨fun z => absurd z (by omega), fun _ => ⟨iZ_in (by omega) (by omega) (by omega), fun M1 h1 => ?_⟩⟩
    obtain ⟨a1, a2, a3⟩ := wi_k h1
    refine ih (i + 1) m M1 _ _ _ (by omega) (by omega) (fun c q => (a1 c q).trans (k c q)) (fun j hj => ?_)
    by_cases e : j = i
    · rw [e, a3, k _ (by omega)]
    · rw [a2 j e]; exact hu j (by omega)
theorem o9_2 {x1 x3 : Int32} (hE : ∀ M1, (∀ c, c ≠ b + 19 → g_mi M1 c = g_mi M0 c) → (∀ j, j < 3024 → g_mi M1 (b + 19) j = g_mi M0 (b + 20) j) → ∀ M2 : gM, M2 = (g_wi M1 b 38 x1) → ∀ M3 : gM, M3 = (g_wi M2 b 40 x3) → pX9_refuses N K M3 b (-3) (fun v1 M4 => R v1 M4)) : ∀ (d i n : Nat) (M : gM) (x2 : Int32), i + d = 3024 → d + 1 ≤ n → (∀ c, c ≠ b + 19 → g_mi M c = g_mi M0 c) → (∀ j, j < i → g_mi M (b + 19) j = g_mi M0 (b + 20) j) → qZ9_orders N K R n 2 M b x1 x2 x3 (iZ i) := by
  intro d
  induction d with
  | zero =>
    intro i n M x2 hi hn k hu
    obtain ⟨m, rfl⟩ : ∃ m, n = m + 1 := ⟨n - 1, by omega⟩
    rw [qZ9_orders]
    rw [if_neg (by decide), if_neg (by decide)]
    unfold pZ9_orders_123
    rw [show (3024 : Int32) = iZ 3024 from rfl, iZ_le (by omega) (by omega) (by omega) (by omega)]
    exact ⟨fun _ => hE M k (fun j hj => hu j (by omega)), fun z => absurd (by omega) z⟩
  | succ d ih =>
    intro i n M x2 hi hn k hu
    obtain ⟨m, rfl⟩ : ∃ m, n = m + 1 := ⟨n - 1, by omega⟩
    rw [qZ9_orders]
    rw [if_neg (by decide), if_neg (by decide)]
    unfold pZ9_orders_123
    rw [show (3024 : Int32) = iZ 3024 from rfl, iZ_le (by omega) (by omega) (by omega) (by omega), iZ_cl (by omega), iZ_s1]
    refine ⟨fun z => absurd z (by omega), fun _ => ⟨iZ_in (by omega) (by omega) (by omega), fun M1 h1 => ?_⟩⟩
    obtain ⟨a1, a2, a3⟩ := wi_k h1
    refine ih (i + 1) m M1 _ (by omega) (by omega) (fun c q => (a1 c q).trans (k c q)) (fun j hj => ?_)
    by_cases e : j = i
    · rw [e, a3, k _ (by omega)]
    · rw [a2 j e]; exact hu j (by omega)
end MO1
/-- a row with the text of orders laid down -/
abbrev laO (r : Nat → Int) (bt : Nat → Int) (ln : Nat) : Nat → Int := laR r 6 (tkc bt ln) (tkv bt ln) (tkL bt ln).length (tkL bt ln).length
theorem laO_lo {r bt : Nat → Int} {ln i : Nat} (h : i < 205) : laO r bt ln i = r i := laR_lo h
theorem laO_211 {r bt : Nat → Int} {ln : Nat} : laO r bt ln 211 = ((tkL bt ln).length : Int) := by
  show laR _ _ _ _ _ _ _ = _
  unfold laR
  rw [if_pos rfl]
theorem laR_OT {r cd vl : Nat → Int} {T : Nat} (hT : T ≤ 400) (h0 : cd T = 0) (hb : ∀ i, i < T → 0 ≤ cd i ∧ cd i ≤ 355 ∧ 0 ≤ vl i ∧ vl i ≤ 20000000) : OT (laR r 6 cd vl T T) cd vl T := by
  refine ⟨hT, h0, fun i hi => ?_⟩
  refine ⟨?_, ?_, hb i hi⟩
  · unfold laR
    rw [if_neg (by omega), if_pos (by omega), show 212 + (2400 + i) - (212 + 400 * 6) = i by omega]
  · unfold laR
    rw [if_neg (by omega), if_neg (by omega), if_pos (by omega), show 3012 + (2400 + i) - (3012 + 400 * 6) = i by omega]
theorem laR_FL {r cd vl : Nat → Int} {T : Nat} {law : List (Nat × Cl)} (hT : T ≤ 400) (h : FL r law) : FL (laR r 6 cd vl T T) law := by
  unfold FL at h ⊢
  rw [laR_lo (by omega)]
  rcases h with h | ⟨t, t6, e, hl⟩
  · exact Or.inl h
  · exact Or.inr ⟨t, t6, e, laR_K (by omega) (by omega) (by omega) hT hl⟩
/-- what orders leave as it was in the reference -/
def Foz (b : Nat) (M M1 : gM) : Prop := (∀ c, (c < b ∨ c = b + 3 ∨ c = b + 4 ∨ c = b + 6 ∨ b + 20 < c) → g_mi M1 c = g_mi M c) ∧ g_mi M1 b 6 = g_mi M b 6 ∧ g_mi M1 b 48 = g_mi M b 48
section MO2
variable {N K b : Nat} {r : Nat → Int} {law : List (Nat × Cl)} {H : HL} {bt : Nat → Int} {ln : Nat} {fr : Nat → Int32} {R : Int32 → gM → Prop}
theorem oz_9 {M : gM} (hN : N = 20000) (hK : 500 ≤ K) (hv : Vr r) (hF : FL r law) (hR : Rr M b r) (hH : RLh M b H) (hB : Mb M b bt ln) (hW : Vw M b) (h13 : g_mi M b 13 = iZ ln) (hf : Rfm M b fr)
    (h6 : ∀ e, RD bt ln true = .inl e → ∀ M1, Foz b M M1 → Rr M1 b r → RLh M1 b H → Rfm M1 b (refU fr (-6)) → g_mi M1 b 13 = 0 → g_mi M1 b 0 = iZ (-6) → g_mi M1 b 14 = iZ (tkp bt ln e) → g_mi M1 b 40 = iZ (-1) → R (iZ (-6)) M1)
    (h3 : ∀ cs u, RD bt ln true = .inr cs → orO law cs 0 (laO r bt ln, [], 0, -1) = .inl u → ∀ M1, Foz b M M1 → Rr M1 b (laO r bt ln) → RLh M1 b H → Rfm M1 b (refU fr (-3)) → g_mi M1 b 13 = 0 → g_mi M1 b 0 = iZ (-3) → g_mi M1 b 14 = iZ (-1) → g_mi M1 b 40 = iZ ((u : Nat) : Int) → R (iZ (-3)) M1)
    (hg : ∀ cs s2, RD bt ln true = .inr cs → orO law cs 0 (laO r bt ln, [], 0, -1) = .inr s2 → ∀ M1, Foz b M M1 → Rr M1 b s2.1 → RLh M1 b (lst (H ++ s2.2.1)) → Rfm M1 b fr → g_mi M1 b 13 = 0 → g_mi M1 b 0 = 0 → g_mi M1 b 14 = iZ (-1) → g_mi M1 b 40 = iZ (-1) → R (iZ s2.2.2.1) M1) : pZ9_orders N K M b R := by
  unfold pZ9_orders pZ9_orders_0
  intro M1 h1
  obtain ⟨a1, a2, a3⟩ := wi_k h1
  rw [iZ_n1] at a3
  have B1 : Mb M1 b bt ln := ⟨hB.1, fun i hi => by rw [a1 _ (by omega)]; exact hB.2 i hi⟩
  show pX9_readsAs N K M1 b (iB true) _
  refine m_readsAs (o := true) (by omega) hK B1 (fun j hj => by rw [a1 _ (by omega)]; exact hW j hj) (by rw [a2 _ (by omega)]; exact h13) (fun M2 v2 f2 tk2 e18 e13 rm => ?_)
  have k2 : ∀ c, c ≠ b → c ≠ b + 9 → c ≠ b + 10 → c ≠ b + 11 → g_mi M2 c = g_mi M c := fun c q0 q1 q2 q3 => by funext j; rw [f2 c j q1 q2 q3 (by omega), a1 c q0]
  have R2 : Rr M2 b r := hR.kp (k2 _ (by omega) (by omega) (by omega) (by omega))
  have H2 : RLh M2 b H := hH.keep (by rw [f2 _ _ (by omega) (by omega) (by omega) (by omega), a2 _ (by omega)]) (k2 _ (by omega) (by omega) (by omega) (by omega))
  have F2 : Rfm M2 b fr := by unfold Rfm at hf ⊢; rw [k2 (b + 1) (by omega) (by omega) (by omega) (by omega)]; exact hf
  have e40 : g_mi M2 b 40 = iZ (-1) := by rw [f2 _ _ (by omega) (by omega) (by omega) (by omega)]; exact a3
  have z2 : Foz b M M2 := ⟨fun c q => k2 c (by omega) (by omega) (by omega) (by omega), by rw [f2 _ _ (by omega) (by omega) (by omega) (by omega), a2 _ (by omega)], by rw [f2 _ _ (by omega) (by omega) (by omega) (by omega), a2 _ (by omega)]⟩
  cases hRD : RD bt ln true with
  | inl e =>
    rw [hRD] at rm
    obtain ⟨w1, w2⟩ := rm
    refine ⟨fun z => absurd w1 z, fun _ => ?_⟩
    rw [show (-6 : Int32) = iZ (-6) from rfl]
    refine rf_9 (Or.inr (Or.inr (Or.inr (Or.inr rfl)))) F2 (fun M3 k3 s3 r3 => ?_)
    refine h6 e hRD M3 ⟨fun c q => ?_, ?_, ?_⟩ (R2.kp (by funext j; exact k3 _ _ (by omega) (by omega))) (H2.keep (k3 _ _ (by omega) (by omega)) (by funext j; exact k3 _ _ (by omega) (by omega))) r3 (by rw [k3 _ _ (by omega) (by omega)]; exact e13) s3 (by rw [k3 _ _ (by omega) (by omega)]; exact w2) (by rw [k3 _ _ (by omega) (by omega)]; exact e40)
    · rw [← z2.1 c q]; funext j; exact k3 _ _ (by omega) (by omega)
    · rw [k3 _ _ (by omega) (by omega)]; exact z2.2.1
    · rw [k3 _ _ (by omega) (by omega)]; exact z2.2.2
  | inr cs =>
    rw [hRD] at rm
    obtain ⟨w1, w2⟩ := rm
    refine ⟨fun _ => ?_, fun z => absurd (w1.symm.trans z) (by decide)⟩
    have t4 := tk2.1
    have bd : ∀ i, i < (tkL bt ln).length → 0 ≤ tkc bt ln i ∧ tkc bt ln i ≤ 355 ∧ 0 ≤ tkv bt ln i ∧ tkv bt ln i ≤ 20000000 := fun i hi => by
      obtain ⟨_, _, _, z1, z2, z3, z4, _⟩ := tk2.2.2 i (by omega)
      exact ⟨z1, z2, z3, z4⟩
    obtain ⟨l12, _, hcb⟩ := RD_B hB.1 (fun i hi => (hB.2 i hi).2) hRD
    have md := hv.mid (r2 := laO r bt ln) (fun i hi => laR_lo (by omega))
    rw [show (1 : Int32) = iZ ((1 : Nat) : Int) from rfl]
    refine as_9 (by omega) (by omega) R2 (fun M3 f3 s3 => ?_)
    show qZ9_orders N K R N 0 M3 b (iZ ((0 : Nat) : Int)) 0 0 0
    refine o9_0 (M0 := M3) (x2 := 0) (x3 := 0) (x4 := 0) (fun M4 n4 hn4 k4 c4 => ?_) 3024 0 N M3 0 0 0 (by omega) (by omega) (fun _ _ => rfl) (fun j hj => by omega)
    have R3 : Rr M3 b r := R2.kp (by funext j; exact f3 _ _ (by omega))
    have R4 : Rr M4 b r := R3.kp (k4 _ (by omega))
    have tk4 : Tk M4 b (tkc bt ln) (tkv bt ln) (tkp bt ln) (tkL bt ln).length := by
      refine ⟨tk2.1, tk2.2.1, fun i hi => ?_⟩
      rw [k4 _ (by omega), k4 _ (by omega), k4 _ (by omega), f3 _ _ (by omega), f3 _ _ (by omega), f3 _ _ (by omega)]
      exact tk2.2.2 i hi
    have e38 : g_mi M4 b 38 = iZ H.length := by rw [k4 _ (by omega), f3 _ _ (by omega)]; exact H2.2.1
    rw [show (6 : Int32) = iZ ((6 : Nat) : Int) from rfl]
    refine la_ok (by omega) (by omega) R4 tk4 (by rw [k4 _ (by omega), f3 _ _ (by omega)]; exact e18) (fun M5 f5 R5 M6 h6' M7 h7 M8 h8 => ?_)
    obtain ⟨p1, p2, p3⟩ := wi_k h6'
    obtain ⟨q1, q2, q3⟩ := wi_k h7
    obtain ⟨u1, u2, u3⟩ := wi_k h8
    have kb : ∀ c, c ≠ b → g_mi M8 c = g_mi M5 c := fun c w => by rw [u1 c w, q1 c w, p1 c w]
    have R8 : Rr M8 b (laO r bt ln) := R5.kp (kb _ (by omega))
    have e211 := laO_211 (r := r) (bt := bt) (ln := ln)
    rw [R8 211 (by omega), e211, u3, e38, show (2400 : Int32) = iZ ((2400 : Nat) : Int) from rfl, iZ_add]
    -- a cell of M8 by one of M
    have kz : ∀ c, (c < b ∨ c = b + 3 ∨ c = b + 4 ∨ c = b + 6 ∨ b + 20 < c) → g_mi M8 c = g_mi M c := fun c w => by
      rw [kb c (by omega), ← z2.1 c w]
      funext j
      rw [f5 c j (by omega), k4 c (by omega), f3 c j (by omega)]
    have kf : ∀ j, j ≠ 27 → j ≠ 28 → j ≠ 41 → g_mi M8 b j = g_mi M2 b j := fun j w1 w2 w3 => by rw [u2 j w3, q2 j w2, p2 j w1, f5 b j (by omega), k4 b (by omega), f3 b j (by omega)]
    have k1 : g_mi M8 (b + 1) = g_mi M2 (b + 1) := by rw [kb _ (by omega)]; funext j; rw [f5 _ j (by omega), k4 _ (by omega), f3 _ j (by omega)]
    have k19 : g_mi M8 (b + 19) = g_mi M2 (b + 19) := by rw [kb _ (by omega)]; funext j; rw [f5 _ j (by omega), k4 _ (by omega), f3 _ j (by omega)]
    have k20 : ∀ j, j < 3024 → g_mi M8 (b + 20) j = g_mi M2 (b + 19) j := fun j hj => by rw [kb _ (by omega), f5 _ j (by omega), c4 j hj, f3 _ j (by omega)]
    have k5 : ∀ i, i < 188 → g_mi M8 (b + 5) (188 * 1 + i) = iZ (laO r bt ln i) := fun i hi => by rw [kb _ (by omega), f5 _ _ (by omega), k4 _ (by omega), s3 i hi, laO_lo (by omega)]
    have o8 : RO9 M8 b H (laO r bt ln, [], 0, -1) := by
      refine ⟨R8, ?_, ?_, ?_⟩
      · show RLh M8 b (lst (H ++ []))
        rw [List.append_nil, lst_s hH.1]
        exact H2.keep (kf _ (by omega) (by omega) (by omega)) k19
      · rw [u2 _ (by omega), q2 _ (by omega), p3]; rfl
      · rw [u2 _ (by omega), q3]; exact iZ_n1
    have hV8 : VO (laO r bt ln) 0 (laO r bt ln, [], 0, -1) := ⟨md.1, md.2, fun _ _ => rfl, by show (0 : Int) ≤ 0; omega, by show (0 : Int) ≤ 0; omega, by show (-1 : Int) ≤ -1; omega, by show (-1 : Int) ≤ 1000; omega, fun e he => (by cases he)⟩
    have m9 : bd9 (laO r bt ln 201) := by have := hv.m; unfold Vm at this; rw [laO_lo (by omega)]; exact this
    -- behind all clauses
    have fz : ∀ M9, Fro b M8 M9 → Foz b M M9 := fun M9 f9 => by
      refine ⟨fun c w => ?_, ?_, ?_⟩
      · rw [← kz c w]; funext j; exact f9 c j (by omega) (by omega) (by omega) (by omega) (by omega)
      · rw [f9 b 6 (by omega) (by omega) (by omega) (by omega) (by omega), kf _ (by omega) (by omega) (by omega)]; exact z2.2.1
      · rw [f9 b 48 (by omega) (by omega) (by omega) (by omega) (by omega), kf _ (by omega) (by omega) (by omega)]; exact z2.2.2
    have fb : ∀ M9, Fro b M8 M9 → ∀ j, (j = 0 ∨ j = 13 ∨ j = 14 ∨ j = 40) → g_mi M9 b j = g_mi M2 b j := fun M9 f9 j w => by rw [f9 b j (by omega) (by omega) (by omega) (by omega) (by omega), kf _ (by omega) (by omega) (by omega)]
    have f1' : ∀ M9, Fro b M8 M9 → Rfm M9 b fr := fun M9 f9 => by
      have : g_mi M9 (b + 1) = g_mi M2 (b + 1) := by rw [← k1]; funext j; exact f9 _ j (by omega) (by omega) (by omega) (by omega) (by omega)
      unfold Rfm at F2 ⊢; rw [this]; exact F2
    show qZ9_orders N K R n4 1 M8 b (iZ H.length) (iZ ((2400 + (tkL bt ln).length : Nat) : Int)) (iZ ((0 : Nat) : Int)) 0
    refine o9_1 (M0 := M8) (r0 := laO r bt ln) (law := law) (H := H) (by omega) hK m9 (laR_FL t4 hF) (laR_OT t4 tkc_T bd) 12 0 0 0 n4 M8 (laO r bt ln, [], 0, -1) 0 cs hRD hcb (by omega) (by omega) (by omega) (by omega) (by omega) hV8 Fro.rf o8 (by rw [u3]; rfl) (fun u hu u12 m M9 r2 hm f9 R9 e9 => ?_) (fun s2 hs2 M9 f9 o9 => ?_)
    · rw [show (1 : Int32) = iZ ((1 : Nat) : Int) from rfl]
      refine tb_k9 (e := laO r bt ln) (by omega) (by omega) R9 (fun i hi => by rw [f9 _ _ (by omega) (by omega) (by omega) (by omega) (by omega)]; exact k5 i hi) (fun M10 f10 R10 => ?_)
      have em : mixR (laO r bt ln) r2 = laO r bt ln := by
        funext i
        unfold mixR
        split
        · rfl
        · exact e9 i (by omega)
      rw [em] at R10
      show qZ9_orders N K R m 2 M10 b (iZ H.length) 0 (iZ u) (iZ ((0 : Nat) : Int))
      refine o9_2 (M0 := M10) (fun M11 k11 c11 M12 h12 M13 h13' => ?_) 3024 0 m M10 0 (by omega) (by omega) (fun _ _ => rfl) (fun j hj => by omega)
      obtain ⟨g1, g2, g3⟩ := wi_k h12
      obtain ⟨i1, i2, i3⟩ := wi_k h13'
      have kk : ∀ c, c ≠ b → c ≠ b + 2 → c ≠ b + 19 → g_mi M13 c = g_mi M9 c := fun c w1 w2 w3 => by
        rw [i1 c w1, g1 c w1, k11 c w3]; funext j; exact f10 c j w2
      have kc : ∀ j, j ≠ 38 → j ≠ 40 → g_mi M13 b j = g_mi M9 b j := fun j w1 w2 => by rw [i2 j w2, g2 j w1, k11 b (by omega), f10 b j (by omega)]
      have zz := fz M9 f9
      have F13 : Rfm M13 b fr := by
        have := f1' M9 f9
        unfold Rfm at this ⊢; rw [kk (b + 1) (by omega) (by omega) (by omega)]; exact this
      rw [show (-3 : Int32) = iZ (-3) from rfl]
      refine rf_9 (Or.inr (Or.inr (Or.inl rfl))) F13 (fun M14 k14 s14 r14 => ?_)
      have ka : ∀ c, c ≠ b → c ≠ b + 1 → g_mi M14 c = g_mi M13 c := fun c w1 w2 => by funext j; exact k14 c j (by omega) w2
      refine h3 cs u hRD hu M14 ⟨fun c w => ?_, ?_, ?_⟩ ((R10.kp (k11 _ (by omega))).kp (by rw [ka _ (by omega) (by omega), i1 _ (by omega), g1 _ (by omega)])) ?_ r14 ?_ s14 ?_ ?_
      · rw [ka c (by omega) (by omega), kk c (by omega) (by omega) (by omega)]; exact zz.1 c w
      · rw [k14 _ _ (by omega) (by omega), kc _ (by omega) (by omega)]; exact zz.2.1
      · rw [k14 _ _ (by omega) (by omega), kc _ (by omega) (by omega)]; exact zz.2.2
      · refine ⟨hH.1, by rw [k14 _ _ (by omega) (by omega), i2 _ (by omega), g3], fun j e he => ?_⟩
        obtain ⟨x1, x2⟩ := H2.2.2 j e he
        have hj : j < H.length := (List.getElem?_eq_some_iff.mp he).1
        have l16 := hH.1
        have kx : ∀ w, w < 3024 → g_mi M14 (b + 19) w = g_mi M2 (b + 19) w := fun w hw => by
          rw [ka _ (by omega) (by omega), i1 _ (by omega), g1 _ (by omega), c11 w hw, f10 _ _ (by omega), f9 _ _ (by omega) (by omega) (by omega) (by omega) (by omega), k20 w hw]
        exact ⟨fun i hi => by rw [kx _ (by omega)]; exact x1 i hi, by rw [kx _ (by omega)]; exact x2⟩
      · rw [k14 _ _ (by omega) (by omega), kc _ (by omega) (by omega), fb M9 f9 _ (by omega)]; exact e13
      · rw [k14 _ _ (by omega) (by omega), kc _ (by omega) (by omega), fb M9 f9 _ (by omega)]; exact w2
      · rw [k14 _ _ (by omega) (by omega), i3]
    · unfold pX9_good0
      intro M10 h10
      obtain ⟨g1, g2, g3⟩ := wi_k h10
      have zz := fz M9 f9
      refine hg cs s2 hRD hs2 M10 ⟨fun c w => ?_, ?_, ?_⟩ (o9.1.kp (g1 _ (by omega))) (o9.2.1.keep (g2 _ (by omega)) (g1 _ (by omega))) ?_ ?_ g3 ?_ ?_
      · rw [g1 c (by omega)]; exact zz.1 c w
      · rw [g2 _ (by omega)]; exact zz.2.1
      · rw [g2 _ (by omega)]; exact zz.2.2
      · have := f1' M9 f9
        unfold Rfm at this ⊢; rw [g1 (b + 1) (by omega)]; exact this
      · rw [g2 _ (by omega), fb M9 f9 _ (by omega)]; exact e13
      · rw [g2 _ (by omega), fb M9 f9 _ (by omega)]; exact w2
      · rw [g2 _ (by omega), fb M9 f9 _ (by omega)]; exact e40
end MO2
