/-! The law's loop, out of the cases. -/
def lw_Q (_ : Array Value) (s : State) (o : Outcome) (t : State) : Prop := o = .returned (some (.int 1)) ∧ Framed s o t [] 600000 7302250
def lw_Z (below : List Frame) (a : Array Value) (s : State) : State → Prop := fun t => ∃ o, t.status = .running ∧ Ended t below o ∧ lw_Q a s o t
/-- the law's own end -/
theorem lw_retR {p : Program} {l : Launch} {e : Env} {R : Room} {s : State} {m : MethodId} {args : Array Value} {below : List Frame} {meth : Method} {c : Code} (hx : p.tables.exec = Jvm.exec) (hb : c.code = code) (hr : meth.sig.returnType = ret) (hlocks : meth.locks = false) {pc : Nat} {H : Heap} {ls : Array Slot} (hdg : decode code pc = .ok (.ireturn, 1)) : W p l e R s m args below meth c H [] 600000 7302250 (lw_Z below args s) (F0 m pc ls [.int 1]) := by
  intro T hT X
  obtain ⟨fs, hret, hrun, hended, hW, hframe⟩ := X.leave (v := some (.int 1)) (hlocks := hlocks) (fun h => by rw [hr] at h; cases h)
  have hmeth' : T.vm.method? m = some meth := X.method'
  refine ⟨T.setFrames fs, ?_, .returned (some (.int 1)), hrun, hended, rfl, ⟨_, rfl⟩, hW, hframe⟩
  jvm_step X.here [X.here.top, hx, hb, hdg, hmeth', hr, ret, narrow_b1]
  (try refine ⟨rfl, ?_⟩); (try refine ⟨rfl, ?_⟩)
  first | (intro acts; rw [hret _ acts rfl rfl rfl]) | rw [hret _ _ rfl rfl rfl]
  exact Steps.refl _
theorem r_end {S : State → Array Value → Prop} {X : gX} {d : Nat} {L : List (Nat × Value)} {M : gM} {c z : Nat} (hc : c ≤ 600000) (hz : z ≤ 7302250) : Gs S lw_Z X d 600000 7302250 kL 1129 L [.int 1] M c z := by
  intro p e s m args below meth cd A H locs ls hs hF hA hB hW hS hl
  exact W.widen hc hz (va_forget (fun q hq => hs.2 _ (hS.2.2 q hq)) (lw_retR hF.1 hF.2.1 hF.2.2.1 hF.2.2.2.2.2.2.1 dL_law_1129))
/-- what the law rests on: each call -/
def ObAll (X : gX) (d : Nat) (Inv : gM → Prop) (a a2 : Nat) : Prop := ∀ x1 x2 x3 x4 x5 : Int32, Ob X d 0 0 kX8_key kX9_key Inv a a2 [.int x1, .int x2] ∧ Ob X d 0 0 kX8_vertex kX9_vertex Inv a a2 [.int x1, .int x2] ∧ Ob X d 0 0 kX8_there kX9_there Inv a a2 [.int x1] ∧ Ob X d 0 0 kX8_ceiling kX9_ceiling Inv a a2 [.int x1] ∧ Ob X d 0 0 kX8_terms kX9_terms Inv a a2 [.int x1, .int x2] ∧ Ob X d 0 0 kX8_feed kX9_feed Inv a a2 [.int x1, .int x2, .int x3, .int x4, .int x5] ∧ Ob X d 0 0 kX8_end kX9_end Inv a a2 [.int x1] ∧ Ob X d 0 0 kX8_row kX9_row Inv a a2 [] ∧ Ob X d 0 0 kX8_blanks kX9_blanks Inv a a2 [] ∧ Ob X d 7 976 kX8_law kX9_law Inv a a2 [] ∧ Ob X d 0 0 kX8_orders kX9_orders Inv a a2 [] ∧ Ob X d 0 0 kX8_fault kX9_fault Inv a a2 [] ∧ Ob X d 0 0 kX8_stopped kX9_stopped Inv a a2 [] ∧ Ob X d 0 0 kX8_force kX9_force Inv a a2 [.int x1] ∧ Ob X d 0 0 kX8_add kX9_add Inv a a2 [.int x1] ∧ Ob X d 0 0 kX8_take kX9_take Inv a a2 [.int x1] ∧ Ob X d 0 0 kX8_side kX9_side Inv a a2 [.int x1] ∧ Ob X d 0 0 kX8_seed kX9_seed Inv a a2 [.int x1] ∧ Ob X d 0 0 kX8_build kX9_build Inv a a2 [] ∧ Ob X d 0 0 kX8_undo kX9_undo Inv a a2 [] ∧ Ob X d 0 0 kX8_core kX9_core Inv a a2 [.int x1] ∧ Ob X d 0 0 kX8_peeled kX9_peeled Inv a a2 [.int x1, .int x2] ∧ Ob X d 0 0 kX8_good kX9_good Inv a a2 [.int x1] ∧ Ob X d 0 0 kX8_leastSide kX9_leastSide Inv a a2 [] ∧ Ob X d 0 0 kX8_found kX9_found Inv a a2 [.int x1, .int x2] ∧ Ob X d 0 0 kX8_table kX9_table Inv a a2 [.int x1] ∧ Ob X d 0 0 kX8_twin kX9_twin Inv a a2 [.int x1] ∧ Ob X d 0 0 kX8_seen kX9_seen Inv a a2 [.int x1, .int x2] ∧ Ob X d 0 0 kX8_forget kX9_forget Inv a a2 [] ∧ Ob X d 0 0 kX8_canBe kX9_canBe Inv a a2 [.int x1] ∧ Ob X d 0 0 kX8_ask kX9_ask Inv a a2 [.int x1] ∧ ObL X d 0 0 kX8_few kX9_few Inv a a2 [.int x1, .int x2] ∧ Ob X d 0 0 kX8_compare kX9_compare Inv a a2 [.int x1, .int x2] ∧ Ob X d 0 0 kX8_years kX9_years Inv a a2 [.int x1, .int x2] ∧ Ob X d 0 0 kX8_drawn kX9_drawn Inv a a2 [.int x1] ∧ Ob X d 0 0 kX8_image kX9_image Inv a a2 [.int x1] ∧ Ob X d 0 0 kX8_back kX9_back Inv a a2 [.int x1] ∧ Ob X d 0 0 kX8_count kX9_count Inv a a2 [.int x1] ∧ Ob X d 0 0 kX8_status kX9_status Inv a a2 []
section LWT
variable {S : State → Array Value → Prop} {X : gX} {d : Nat} {a a2 b Ls : Nat} {xs : Nat → Int32} {Inv : gM → Prop}
theorem lw_six {iv : Int32} {i q : Nat} (hi : iv = iZ i) (hL : Ls ≤ 3072) (hq : q < 6) (h : i + 6 ≤ Ls) : vp_in (iv + iZ q) Ls ∧ xs (iv + iZ q).toNatClampNeg = xs (i + q) := by
  subst hi
  rw [iZ_add]
  refine ⟨iZ_in (by omega) (by omega) (by omega), ?_⟩
  rw [iZ_nat (by omega) (by omega)]
  congr 1
theorem lw_case {M : gM} {c z i : Nat} {iv : Int32} (hX : ∀ s args, S s args → va_X b Ls xs s s.heap ∧ b < s.heap.size) (hL : Ls ≤ 3072) (hO : ObAll X d Inv a a2) (hI : Inv M) (hfr : ∀ c, g_kd M c ≠ none → c < g_nx M) (hi : iv = iZ i) (h6 : i + 6 ≤ Ls) (hc1 : c + 7 ≤ 600000) (hz1 : z + 976 ≤ 7302250) (h : ∀ M2 c2 z2, Inv M2 → c2 ≤ c + 7 → z2 ≤ z + 976 → Gs S lw_Z X (d + 1) 600000 7302250 kL 1122 [(3, .int iv), (0, .ref b), (1, .ref a), (2, .ref a2)] [] M2 c2 z2) : Gs S lw_Z X (d + 1) 600000 7302250 kL 33 [(3, .int iv), (0, .ref b), (1, .ref a), (2, .ref a2)] [.int (xs i &&& 63)] M c z := by
  have q1 := lw_six (xs := xs) (q := 1) hi hL (by omega) h6
  have q2 := lw_six (xs := xs) (q := 2) hi hL (by omega) h6
  have q3 := lw_six (xs := xs) (q := 3) hi hL (by omega) h6
  have q4 := lw_six (xs := xs) (q := 4) hi hL (by omega) h6
  have q5 := lw_six (xs := xs) (q := 5) hi hL (by omega) h6
  have ho := hO (xs (i + 1)) (xs (i + 2)) (xs (i + 3)) (xs (i + 4)) (xs (i + 5))
  obtain ⟨n, hn, e⟩ := pk_andE (xs i) (m := 63) 6 rfl
  rw [e]
  by_cases hb : 38 < n
  · refine r_tableOut 1122 dL_law_33 (Or.inr ?_) rfl (h M c z hI (by omega) (by omega))
    rw [show (nI n).toInt = n from by rw [show nI n = iZ n from iZ_ofNat n, iZ_ti (by omega) (by omega)]]
    omega
  · have hn2 : n < 39 := by omega
    clear hn hb e
    obtain ⟨o0, o1, o2, o3, o4, o5, o6, o7, o8, o9, o10, o11, o12, o13, o14, o15, o16, o17, o18, o19, o20, o21, o22, o23, o24, o25, o26, o27, o28, o29, o30, o31, o32, o33, o34, o35, o36, o37, o38⟩ := ho
    match n, hn2 with
    | 0, _ => exact r_tabIn (nI 0) 204 dL_law_33 rfl (by decide) (by decide) rfl rfl (lwc_0 hX o0 hI hfr (by omega) (by omega) q1 q2 (fun M2 h2 => h M2 _ _ h2 (by omega) (by omega)))
    | 1, _ => exact r_tabIn (nI 1) 237 dL_law_33 rfl (by decide) (by decide) rfl rfl (lwc_1 hX o1 hI hfr (by omega) (by omega) q1 q2 (fun M2 h2 => h M2 _ _ h2 (by omega) (by omega)))
    | 2, _ => exact r_tabIn (nI 2) 270 dL_law_33 rfl (by decide) (by decide) rfl rfl (lwc_2 hX o2 hI hfr (by omega) (by omega) q1 (fun M2 h2 => h M2 _ _ h2 (by omega) (by omega)))
    | 3, _ => exact r_tabIn (nI 3) 293 dL_law_33 rfl (by decide) (by decide) rfl rfl (lwc_3 hX o3 hI hfr (by omega) (by omega) q1 (fun M2 h2 => h M2 _ _ h2 (by omega) (by omega)))
    | 4, _ => exact r_tabIn (nI 4) 316 dL_law_33 rfl (by decide) (by decide) rfl rfl (lwc_4 hX o4 hI hfr (by omega) (by omega) q1 q2 (fun M2 h2 => h M2 _ _ h2 (by omega) (by omega)))
    | 5, _ => exact r_tabIn (nI 5) 349 dL_law_33 rfl (by decide) (by decide) rfl rfl (lwc_5 hX o5 hI hfr (by omega) (by omega) q1 q2 q3 q4 q5 (fun M2 h2 => h M2 _ _ h2 (by omega) (by omega)))
    | 6, _ => exact r_tabIn (nI 6) 412 dL_law_33 rfl (by decide) (by decide) rfl rfl (lwc_6 hX o6 hI hfr (by omega) (by omega) q1 (fun M2 h2 => h M2 _ _ h2 (by omega) (by omega)))
    | 7, _ => exact r_tabIn (nI 7) 435 dL_law_33 rfl (by decide) (by decide) rfl rfl (lwc_7 hX o7 hI hfr (by omega) (by omega)  (fun M2 h2 => h M2 _ _ h2 (by omega) (by omega)))
    | 8, _ => exact r_tabIn (nI 8) 448 dL_law_33 rfl (by decide) (by decide) rfl rfl (lwc_8 hX o8 hI hfr (by omega) (by omega)  (fun M2 h2 => h M2 _ _ h2 (by omega) (by omega)))
    | 9, _ => exact r_tabIn (nI 9) 461 dL_law_33 rfl (by decide) (by decide) rfl rfl (lwc_9 hX o9 hI hfr (by omega) (by omega)  (fun M2 h2 => h M2 _ _ h2 (by omega) (by omega)))
    | 10, _ => exact r_tabIn (nI 10) 474 dL_law_33 rfl (by decide) (by decide) rfl rfl (lwc_10 hX o10 hI hfr (by omega) (by omega)  (fun M2 h2 => h M2 _ _ h2 (by omega) (by omega)))
    | 11, _ => exact r_tabIn (nI 11) 487 dL_law_33 rfl (by decide) (by decide) rfl rfl (lwc_11 hX o11 hI hfr (by omega) (by omega)  (fun M2 h2 => h M2 _ _ h2 (by omega) (by omega)))
    | 12, _ => exact r_tabIn (nI 12) 500 dL_law_33 rfl (by decide) (by decide) rfl rfl (lwc_12 hX o12 hI hfr (by omega) (by omega)  (fun M2 h2 => h M2 _ _ h2 (by omega) (by omega)))
    | 13, _ => exact r_tabIn (nI 13) 513 dL_law_33 rfl (by decide) (by decide) rfl rfl (lwc_13 hX o13 hI hfr (by omega) (by omega) q1 (fun M2 h2 => h M2 _ _ h2 (by omega) (by omega)))
    | 14, _ => exact r_tabIn (nI 14) 536 dL_law_33 rfl (by decide) (by decide) rfl rfl (lwc_14 hX o14 hI hfr (by omega) (by omega) q1 (fun M2 h2 => h M2 _ _ h2 (by omega) (by omega)))
    | 15, _ => exact r_tabIn (nI 15) 559 dL_law_33 rfl (by decide) (by decide) rfl rfl (lwc_15 hX o15 hI hfr (by omega) (by omega) q1 (fun M2 h2 => h M2 _ _ h2 (by omega) (by omega)))
    | 16, _ => exact r_tabIn (nI 16) 582 dL_law_33 rfl (by decide) (by decide) rfl rfl (lwc_16 hX o16 hI hfr (by omega) (by omega) q1 (fun M2 h2 => h M2 _ _ h2 (by omega) (by omega)))
    | 17, _ => exact r_tabIn (nI 17) 605 dL_law_33 rfl (by decide) (by decide) rfl rfl (lwc_17 hX o17 hI hfr (by omega) (by omega) q1 (fun M2 h2 => h M2 _ _ h2 (by omega) (by omega)))
    | 18, _ => exact r_tabIn (nI 18) 628 dL_law_33 rfl (by decide) (by decide) rfl rfl (lwc_18 hX o18 hI hfr (by omega) (by omega)  (fun M2 h2 => h M2 _ _ h2 (by omega) (by omega)))
    | 19, _ => exact r_tabIn (nI 19) 641 dL_law_33 rfl (by decide) (by decide) rfl rfl (lwc_19 hX o19 hI hfr (by omega) (by omega)  (fun M2 h2 => h M2 _ _ h2 (by omega) (by omega)))
    | 20, _ => exact r_tabIn (nI 20) 654 dL_law_33 rfl (by decide) (by decide) rfl rfl (lwc_20 hX o20 hI hfr (by omega) (by omega) q1 (fun M2 h2 => h M2 _ _ h2 (by omega) (by omega)))
    | 21, _ => exact r_tabIn (nI 21) 677 dL_law_33 rfl (by decide) (by decide) rfl rfl (lwc_21 hX o21 hI hfr (by omega) (by omega) q1 q2 (fun M2 h2 => h M2 _ _ h2 (by omega) (by omega)))
    | 22, _ => exact r_tabIn (nI 22) 710 dL_law_33 rfl (by decide) (by decide) rfl rfl (lwc_22 hX o22 hI hfr (by omega) (by omega) q1 (fun M2 h2 => h M2 _ _ h2 (by omega) (by omega)))
    | 23, _ => exact r_tabIn (nI 23) 733 dL_law_33 rfl (by decide) (by decide) rfl rfl (lwc_23 hX o23 hI hfr (by omega) (by omega)  (fun M2 h2 => h M2 _ _ h2 (by omega) (by omega)))
    | 24, _ => exact r_tabIn (nI 24) 746 dL_law_33 rfl (by decide) (by decide) rfl rfl (lwc_24 hX o24 hI hfr (by omega) (by omega) q1 q2 (fun M2 h2 => h M2 _ _ h2 (by omega) (by omega)))
    | 25, _ => exact r_tabIn (nI 25) 779 dL_law_33 rfl (by decide) (by decide) rfl rfl (lwc_25 hX o25 hI hfr (by omega) (by omega) q1 (fun M2 h2 => h M2 _ _ h2 (by omega) (by omega)))
    | 26, _ => exact r_tabIn (nI 26) 802 dL_law_33 rfl (by decide) (by decide) rfl rfl (lwc_26 hX o26 hI hfr (by omega) (by omega) q1 (fun M2 h2 => h M2 _ _ h2 (by omega) (by omega)))
    | 27, _ => exact r_tabIn (nI 27) 825 dL_law_33 rfl (by decide) (by decide) rfl rfl (lwc_27 hX o27 hI hfr (by omega) (by omega) q1 q2 (fun M2 h2 => h M2 _ _ h2 (by omega) (by omega)))
    | 28, _ => exact r_tabIn (nI 28) 858 dL_law_33 rfl (by decide) (by decide) rfl rfl (lwc_28 hX o28 hI hfr (by omega) (by omega)  (fun M2 h2 => h M2 _ _ h2 (by omega) (by omega)))
    | 29, _ => exact r_tabIn (nI 29) 871 dL_law_33 rfl (by decide) (by decide) rfl rfl (lwc_29 hX o29 hI hfr (by omega) (by omega) q1 (fun M2 h2 => h M2 _ _ h2 (by omega) (by omega)))
    | 30, _ => exact r_tabIn (nI 30) 894 dL_law_33 rfl (by decide) (by decide) rfl rfl (lwc_30 hX o30 hI hfr (by omega) (by omega) q1 (fun M2 h2 => h M2 _ _ h2 (by omega) (by omega)))
    | 31, _ => exact r_tabIn (nI 31) 917 dL_law_33 rfl (by decide) (by decide) rfl rfl (lwc_31 hX o31 hI hfr (by omega) (by omega) q1 q2 (fun M2 h2 => h M2 _ _ h2 (by omega) (by omega)))
    | 32, _ => exact r_tabIn (nI 32) 951 dL_law_33 rfl (by decide) (by decide) rfl rfl (lwc_32 hX o32 hI hfr (by omega) (by omega) q1 q2 (fun M2 h2 => h M2 _ _ h2 (by omega) (by omega)))
    | 33, _ => exact r_tabIn (nI 33) 984 dL_law_33 rfl (by decide) (by decide) rfl rfl (lwc_33 hX o33 hI hfr (by omega) (by omega) q1 q2 (fun M2 h2 => h M2 _ _ h2 (by omega) (by omega)))
    | 34, _ => exact r_tabIn (nI 34) 1017 dL_law_33 rfl (by decide) (by decide) rfl rfl (lwc_34 hX o34 hI hfr (by omega) (by omega) q1 (fun M2 h2 => h M2 _ _ h2 (by omega) (by omega)))
    | 35, _ => exact r_tabIn (nI 35) 1040 dL_law_33 rfl (by decide) (by decide) rfl rfl (lwc_35 hX o35 hI hfr (by omega) (by omega) q1 (fun M2 h2 => h M2 _ _ h2 (by omega) (by omega)))
    | 36, _ => exact r_tabIn (nI 36) 1063 dL_law_33 rfl (by decide) (by decide) rfl rfl (lwc_36 hX o36 hI hfr (by omega) (by omega) q1 (fun M2 h2 => h M2 _ _ h2 (by omega) (by omega)))
    | 37, _ => exact r_tabIn (nI 37) 1086 dL_law_33 rfl (by decide) (by decide) rfl rfl (lwc_37 hX o37 hI hfr (by omega) (by omega) q1 (fun M2 h2 => h M2 _ _ h2 (by omega) (by omega)))
    | 38, _ => exact r_tabIn (nI 38) 1109 dL_law_33 rfl (by decide) (by decide) rfl rfl (lwc_38 hX o38 hI hfr (by omega) (by omega)  (fun M2 h2 => h M2 _ _ h2 (by omega) (by omega)))
    | n + 39, hh => exact absurd hh (by omega)
set_option maxRecDepth 20000 in
theorem lw_loop (hX : ∀ s args, S s args → va_X b Ls xs s s.heap ∧ b < s.heap.size) (hL : Ls ≤ 3072) (hO : ObAll X d Inv a a2) : ∀ (n j c z : Nat) (M : gM), Ls < 6 * j + n → 6 * j ≤ Ls + 5 → c ≤ 400 + 7 * j → z ≤ 40000 + 976 * j → Inv M → Gs S lw_Z X (d + 1) 600000 7302250 kL 18 [(3, .int (iZ (6 * j : Nat))), (0, .ref b), (1, .ref a), (2, .ref a2)] [] M c z := by
  intro n
  induction n with
  | zero =>
    intro j c z M h1 h2 h3 h4 hI
    refine r_iload_n 0 19 dL_law_18 rfl rfl ?_
    refine r_aload_n 1 20 dL_law_19 rfl rfl ?_
    refine r_slen 21 hX dL_law_20 rfl rfl ?_
    refine r_bipush (6) 23 dL_law_21 rfl rfl ?_
    refine r_isub 24 dL_law_23 rfl ?_
    refine r_icmp_gt 1128 27 dL_law_24 rfl rfl (fun cg => ?_) (fun cg => ?_)
    · refine r_iconst (1) 1129 dL_law_1128 rfl rfl ?_
      exact r_end (by omega) (by omega)
    · exfalso
      apply cg
      rw [iZ_ofNat, iZ_l6, iZ_sub, iZ_lt (by omega) (by omega) (by omega) (by omega)]
      omega
  | succ n ih =>
    intro j c z M h1 h2 h3 h4 hI
    refine r_fresh (fun hfr => ?_)
    refine r_iload_n 0 19 dL_law_18 rfl rfl ?_
    refine r_aload_n 1 20 dL_law_19 rfl rfl ?_
    refine r_slen 21 hX dL_law_20 rfl rfl ?_
    refine r_bipush (6) 23 dL_law_21 rfl rfl ?_
    refine r_isub 24 dL_law_23 rfl ?_
    refine r_icmp_gt 1128 27 dL_law_24 rfl rfl (fun cg => ?_) (fun cg => ?_)
    · refine r_iconst (1) 1129 dL_law_1128 rfl rfl ?_
      exact r_end (by omega) (by omega)
    · have h6 : 6 * j + 6 ≤ Ls := by
        rw [iZ_ofNat, iZ_l6, iZ_sub, iZ_lt (by omega) (by omega) (by omega) (by omega)] at cg
        omega
      refine r_aload_n 1 28 dL_law_27 rfl rfl ?_
      refine r_iload_n 0 29 dL_law_28 rfl rfl ?_
      refine r_sld (x := xs (6 * j)) 30 hX dL_law_29 rfl (iZ_in (by omega) (by omega) (by omega)) (by rw [iZ_nat (by omega) (by omega)]; congr 1) ?_
      refine r_bipush (63) 32 dL_law_30 rfl rfl ?_
      refine r_iand 33 dL_law_32 rfl ?_
      refine lw_case hX hL hO hI hfr rfl h6 (by omega) (by omega) (fun M2 c2 z2 hI2 hc2 hz2 => ?_)
      refine r_iinc (iZ (6 * (j + 1) : Nat)) 0 1125 [(3, .int (iZ (6 * (j + 1) : Nat))), (0, .ref b), (1, .ref a), (2, .ref a2)] dL_law_1122 rfl rfl (by rw [show Int32.ofInt 6 = iZ 6 from rfl, iZ_add]; congr 1) (Nat.le_of_ble_eq_true rfl) rfl ?_
      refine r_goto 18 dL_law_1125 rfl ?_
      exact ih (j + 1) c2 z2 M2 (by omega) (by omega) (by omega) (by omega) hI2
end LWT
