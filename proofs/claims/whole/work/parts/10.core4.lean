/-! The light machine: calls, contracts, copies. -/
theorem g_good {w : Cond} (h : w ∈ gtbl) : w ∈ gtbl ∧ ((w.onTables && w.keeps) = true ∨ ∃ ty, w = .arrayClass ty) := ⟨h, good_of_word (List.mem_filter.mp h).2⟩
theorem g_goodIn {j : gK} (h : Cond.code (kY j) (kB j) (kN j) (kR j) ∈ gtbl) : GoodIn gtbl (gws j) := by
  intro w hw
  rcases List.mem_cons.mp hw with rfl | hw
  · exact g_good h
  · exact g_good hw
theorem g_Str.to {X : gX} {s U : State} (hv : s.WarmedH U.vm) (hh : ∀ q, q < s.heap.size → ¬ gB X ≤ q → U.heap[q]? = s.heap[q]?) (h : g_Str X s) : g_Str X U :=
  ⟨h.1.warm hv, (vk_S.moved hv.alike h.2.1).kept hh, fun q hq => va_Nw.warmM hv (h.2.2.1 q hq), fun C hC => va_AO.moved hv.alike (h.2.2.2.1 C hC), (va_Z.moved hv.alike h.2.2.2.2.1).kept hh, (va_Zq.moved hv.alike h.2.2.2.2.2).kept hh⟩
/-- what a callee needs, of a caller's point -/
theorem g_pre {X : gX} {k : gK} {p : Program} {s : State} {m : MethodId} {args : Array Value} {meth : Method} {cd : Code} {A : Nat → Prop} {H : Heap} {locs : List Loc} {M : gM} (av : List Value) (hF : gFix X k p s m args meth cd) (hB : ∀ q, A q → gB X ≤ q) (hW : g_Wd X A M H) (hS : va_S A s.heap H locs) (U : State) (hU : U.heap = H) (hv : s.WarmedH U.vm) : g_Pre X A av M av.toArray U := by
  refine ⟨rfl, by rw [hU]; exact hW, va_K.moved hv.alike hF.2.2.2.2.2.2.2.2.1, ?_⟩
  exact hF.2.2.2.2.2.2.2.2.2.to hv fun a ha hn => by rw [hU]; exact hS.2.1 a ha (fun q => hn (hB a q))
theorem g_blind {X : gX} {A : Nat → Prop} {av : List Value} {M : gM} : FrameBlind (g_Pre X A av M) := fun a U g mk q => by
  obtain ⟨q0, q1, q2, q3⟩ := q
  have hal : U.vm.Alike (U.calling g mk a).vm := Vm.Alike.refl U.vm
  refine ⟨q0, q1, va_K.moved hal q2, ?_⟩
  exact ⟨vk_R.same (u := U) rfl q3.1, vk_S.moved hal q3.2.1, fun q hq => va_Nw.same (u := U) rfl rfl (q3.2.2.1 q hq), fun C hC => va_AO.moved hal (q3.2.2.2.1 C hC), va_Z.moved hal q3.2.2.2.2.1, va_Zq.moved hal q3.2.2.2.2.2⟩
section GO4
variable {X : gX} {d mc ms : Nat} {k : gK} {Q : Option Value → gM → Prop} {pc : Nat} {L : List (Nat × Value)} {st : List Value} {M : gM} {c z : Nat}
/-- behind a call's run -/
theorem g_back {p : Program} {e : Env} {s : State} {m : MethodId} {args : Array Value} {below : List Frame} {meth : Method} {cd : Code} {A : Nat → Prop} {H : Heap} {locs : List Loc} {ls : Array Slot} {rest : List Value} {mc1 ms1 : Nat} {a : Array Value} {st0 : List Value} {Q1 : Option Value → gM → Prop} {R : Room} {Z : State → Prop}
    (hr : va_Run p (gL X) e R s m args below meth cd H locs c z mc1 ms1 (F0 m pc ls st0) rest (g_Qc X Q1 A a) A) (hS : va_S A s.heap H locs)
    (kk : ∀ (v : Option Value) (M1 : gM) (H1 : Heap) (locs1 : List Loc), Q1 v M1 → g_Wd X A M1 H1 → va_S A s.heap H1 locs1 → W p (gL X) e R s m args below meth cd H1 locs1 (c + mc1) (z + ms1) Z (F0 m (pc + 3) ls (v.toList ++ rest))) : W p (gL X) e R s m args below meth cd H locs c z Z (F0 m pc ls st0) := by
  intro T hT Xs
  obtain ⟨v, st₀, t, T', Ll, h0, X', hL, e1, e2, ⟨⟨v', M1, hv, hq, hw⟩, hz, hk⟩, stp⟩ := hr T hT Xs
  cases hv
  rw [h0] at hz hk
  obtain ⟨t2, a1, b1⟩ := kk v M1 T'.heap (locs ++ Ll) hq (by rw [e1]; exact hw) ⟨Nat.le_trans hS.1 (by rw [e1]; exact hz), fun q h1 h2 => by rw [e1, hk q (Nat.lt_of_lt_of_le h1 hS.1) h2]; exact hS.2.1 q h1 h2, fun q hq => by
      rcases List.mem_append.mp hq with h | h
      · exact hS.2.2 q h
      · exact hL q h⟩ T' rfl X'
  exact ⟨t2, stp t2 a1, b1⟩
/-- static facts of a call: own class, place, callee, how many parameters -/
def g_MB (own : String) (ix : Nat) (j : gK) (n : Nat) (nest : Bool) : Prop := Cond.code (kY j) (kB j) (kN j) (kR j) ∈ gtbl ∧ Cond.initialized (kY j).cls ∈ gtbl ∧ (if nest = true then (own, ix, kY j) ∈ g_nst else Cond.methodLink own ix (kY j) ∈ gtbl) ∧ ((kY j).cls ≠ "java/lang/invoke/MethodHandle" ∧ (kY j).cls ≠ "java/lang/invoke/VarHandle" ∧ (parseMethodDescriptor (kY j).desc).map (fun d => d.parameters.length) = some n) ∧ kN j ≤ 45
theorem g_callB {own : String} {ix n mc1 ms1 : Nat} {j : gK} {s : State} {args : Array Value} (hb : g_MB own ix j n false) (hts : ∀ w ∈ gtbl, w.before args s = true) : CallB (g_room (d + 1) mc ms) s args own ix (kY j) (kB j) (kN j) (kR j) (gws j) (g_room d mc1 ms1) mc1 ms1 n := by
  obtain ⟨b1, b2, b3, b4, b5⟩ := hb
  exact callB_of n hts (g_goodIn b1) rfl rfl rfl (hts _ b2) (hts _ (by simpa using b3)) b4 ⟨Nat.le_refl _, by show 8 + (kN j + 11) + 64 * d ≤ 64 * (d + 1); omega⟩
theorem g_callS {ix : Nat} {rest av : List Value} {mc1 ms1 : Nat} (j : gK) (pc' : Nat) (hd : decode (kB k) pc = .ok (.invokestatic ix, 3)) (hp : pc + 3 = pc') (hst : st = av.reverse ++ rest) (hb : g_MB (kO k) ix j av.length false) (hs : Cond.static (kY j) ∈ gtbl) (hw : (rest.map fun v => v.category).sum ≤ 8) (hcc : c + mc1 ≤ mc) (hzz : z + ms1 ≤ ms)
    (h : Cn X d mc1 ms1 j av M (fun v M1 => Go X (d + 1) mc ms k Q pc' L (v.toList ++ rest) M1 (c + mc1) (z + ms1))) : Go X (d + 1) mc ms k Q pc L st M c z := by
  subst hp
  subst hst
  intro p e s m args below meth cd A H locs ls hF hA hB hW hS hl
  refine g_back (va_runS (As := av) (rest := rest) ⟨hF.1, hF.2.1, hF.2.2.2.1, hF.2.2.2.2.1, hF.2.2.2.2.2.1⟩ (h A (fun q hq => hA q (Nat.le_trans hS.1 (by rw [hW.1]; exact hq))) hB) ⟨g_callB hb hF.2.2.2.2.2.1, hF.2.2.2.2.2.1 _ hs⟩ ⟨g_blind, fun U hU hv => g_pre av hF hB hW hS U hU hv⟩ rfl rfl hl.1 rfl (lv_room hw) hd ⟨hcc, hzz⟩) hS ?_
  intro v M1 H1 locs1 hq hW1 hS1
  exact hq p e s m args below meth cd A H1 locs1 ls hF hA hB hW1 hS1 hl
theorem g_callSN {ix : Nat} {rest av : List Value} {mc1 ms1 : Nat} (j : gK) (pc' : Nat) (hd : decode (kB k) pc = .ok (.invokestatic ix, 3)) (hp : pc + 3 = pc') (hst : st = av.reverse ++ rest) (hb : g_MB (kO k) ix j av.length true) (hs : Cond.static (kY j) ∈ gtbl) (hw : (rest.map fun v => v.category).sum ≤ 8) (hcc : c + mc1 ≤ mc) (hzz : z + ms1 ≤ ms)
    (h : Cn X d mc1 ms1 j av M (fun v M1 => Go X (d + 1) mc ms k Q pc' L (v.toList ++ rest) M1 (c + mc1) (z + ms1))) : Go X (d + 1) mc ms k Q pc L st M c z := by
  subst hp
  subst hst
  intro p e s m args below meth cd A H locs ls hF hA hB hW hS hl
  have hts := hF.2.2.2.2.2.1
  obtain ⟨b1, b2, b3, b4, b5⟩ := hb
  have b3 : (kO k, ix, kY j) ∈ g_nst := by simpa using b3
  have b3 := hF.2.2.2.2.2.2.2.2.2.2.2.1 _ b3
  refine g_back (va_runSN (As := av) (rest := rest) ⟨hF.1, hF.2.1, hF.2.2.2.1, hF.2.2.2.2.1, hts⟩ (h A (fun q hq => hA q (Nat.le_trans hS.1 (by rw [hW.1]; exact hq))) hB) ⟨va_cnB (host := "PeeledHash") (rm := g_room d mc1 ms1) av.length hts (g_goodIn b1) rfl rfl rfl b3 (hts _ b2) b4 ⟨Nat.le_refl _, by show 8 + (kN j + 11) + 64 * d ≤ 64 * (d + 1); omega⟩, hts _ hs, trivial⟩ ⟨g_blind, fun U hU hv => g_pre av hF hB hW hS U hU hv⟩ rfl rfl hl.1 rfl (lv_room hw) hd ⟨hcc, hzz⟩) hS ?_
  intro v M1 H1 locs1 hq hW1 hS1
  exact hq p e s m args below meth cd A H1 locs1 ls hF hA hB hW1 hS1 hl
theorem g_recv {p : Program} {s : State} {m : MethodId} {args : Array Value} {meth : Method} {cd : Code} {A : Nat → Prop} {H : Heap} {b ci N : Nat} {C : String} {T : u_T} (hF : gFix X k p s m args meth cd) (hW : g_Wd X A M H) (hk : g_kd M b = some (ci, N)) (hc : vwCl[ci]? = some (C, T, N)) : ∃ cellB : Cell, H[b]? = some cellB ∧ cellB.vm.isStatics = false ∧ s.vm.findClass C = some cellB.cls := by
  have hat := (hW.2 b (by rw [hk]; simp)).2.2
  rw [g_ent_obj hk (g_lt10 hc)] at hat
  exact va_recv (ws := [(b, .inr (ci, (List.range N).map (g_fv M b ci)))]) (q0 := 0) hF.2.2.2.2.2.2.2.2.1 (fun j q hj => by
    have : j = 0 := by have := (List.getElem?_eq_some_iff.mp hj).1; simp at this; omega
    subst this
    cases hj
    exact hat) hc rfl
theorem g_callV {ix b ci N : Nat} {C : String} {T : u_T} {rest av : List Value} {mc1 ms1 : Nat} (j : gK) (pc' : Nat) (hd : decode (kB k) pc = .ok (.invokevirtual ix, 3)) (hp : pc + 3 = pc') (hst : st = av.reverse ++ .ref b :: rest) (hb : g_MB (kO k) ix j av.length false) (hi : Cond.instanceMethod (kY j) ∈ gtbl) (hs : Cond.selects C (kY j) (kY j) ∈ gtbl) (hc : vwCl[ci]? = some (C, T, N)) (hk : g_kd M b = some (ci, N)) (hw : (rest.map fun v => v.category).sum ≤ 8) (hcc : c + mc1 ≤ mc) (hzz : z + ms1 ≤ ms)
    (h : Cn X d mc1 ms1 j (.ref b :: av) M (fun v M1 => Go X (d + 1) mc ms k Q pc' L (v.toList ++ rest) M1 (c + mc1) (z + ms1))) : Go X (d + 1) mc ms k Q pc L st M c z := by
  subst hp
  subst hst
  intro p e s m args below meth cd A H locs ls hF hA hB hW hS hl
  refine g_back (va_runV (C := C) (b := b) (As := av) (rest := rest) ⟨hF.1, hF.2.1, hF.2.2.2.1, hF.2.2.2.2.1, hF.2.2.2.2.2.1⟩ (h A (fun q hq => hA q (Nat.le_trans hS.1 (by rw [hW.1]; exact hq))) hB) ⟨g_callB hb hF.2.2.2.2.2.1, hF.2.2.2.2.2.1 _ hi, hF.2.2.2.2.2.1 _ hs⟩ ⟨g_blind, g_recv hF hW hk hc, fun U hU hv => g_pre (.ref b :: av) hF hB hW hS U hU hv⟩ rfl rfl hl.1 rfl (lv_room hw) hd ⟨hcc, hzz⟩) hS ?_
  intro v M1 H1 locs1 hq hW1 hS1
  exact hq p e s m args below meth cd A H1 locs1 ls hF hA hB hW1 hS1 hl
theorem g_callVN {ix b ci N : Nat} {C : String} {T : u_T} {rest av : List Value} {mc1 ms1 : Nat} (j : gK) (pc' : Nat) (hd : decode (kB k) pc = .ok (.invokevirtual ix, 3)) (hp : pc + 3 = pc') (hst : st = av.reverse ++ .ref b :: rest) (hb : g_MB (kO k) ix j av.length true) (hi : Cond.instanceMethod (kY j) ∈ gtbl) (hs : Cond.selects C (kY j) (kY j) ∈ gtbl) (hc : vwCl[ci]? = some (C, T, N)) (hk : g_kd M b = some (ci, N)) (hw : (rest.map fun v => v.category).sum ≤ 8) (hcc : c + mc1 ≤ mc) (hzz : z + ms1 ≤ ms)
    (h : Cn X d mc1 ms1 j (.ref b :: av) M (fun v M1 => Go X (d + 1) mc ms k Q pc' L (v.toList ++ rest) M1 (c + mc1) (z + ms1))) : Go X (d + 1) mc ms k Q pc L st M c z := by
  subst hp
  subst hst
  intro p e s m args below meth cd A H locs ls hF hA hB hW hS hl
  have hts := hF.2.2.2.2.2.1
  obtain ⟨b1, b2, b3, b4, b5⟩ := hb
  have b3 : (kO k, ix, kY j) ∈ g_nst := by simpa using b3
  have b3 := hF.2.2.2.2.2.2.2.2.2.2.2.1 _ b3
  refine g_back (va_runVN (C := C) (b := b) (As := av) (rest := rest) ⟨hF.1, hF.2.1, hF.2.2.2.1, hF.2.2.2.2.1, hts⟩ (h A (fun q hq => hA q (Nat.le_trans hS.1 (by rw [hW.1]; exact hq))) hB) ⟨va_cnB (host := "PeeledHash") (rm := g_room d mc1 ms1) av.length hts (g_goodIn b1) rfl rfl rfl b3 (hts _ b2) b4 ⟨Nat.le_refl _, by show 8 + (kN j + 11) + 64 * d ≤ 64 * (d + 1); omega⟩, hts _ hi, hts _ hs⟩ ⟨g_blind, g_recv hF hW hk hc, fun U hU hv => g_pre (.ref b :: av) hF hB hW hS U hU hv⟩ rfl rfl hl.1 rfl (lv_room hw) hd ⟨hcc, hzz⟩) hS ?_
  intro v M1 H1 locs1 hq hW1 hS1
  exact hq p e s m args below meth cd A H1 locs1 ls hF hA hB hW1 hS1 hl
theorem g_callI {ix b : Nat} {rest av : List Value} {mc1 ms1 : Nat} (j : gK) (pc' : Nat) (hd : decode (kB k) pc = .ok (.invokespecial ix, 3)) (hp : pc + 3 = pc') (hst : st = av.reverse ++ .ref b :: rest) (hb : g_MB (kO k) ix j av.length false) (hi : Cond.instanceMethod (kY j) ∈ gtbl) (hy : (kY j).name = "<init>") (hr : kR j = none) (hw : (rest.map fun v => v.category).sum ≤ 8) (hcc : c + mc1 ≤ mc) (hzz : z + ms1 ≤ ms)
    (h : Cn X d mc1 ms1 j (.ref b :: av) M (fun v M1 => Go X (d + 1) mc ms k Q pc' L (v.toList ++ rest) M1 (c + mc1) (z + ms1))) : Go X (d + 1) mc ms k Q pc L st M c z := by
  subst hp
  subst hst
  intro p e s m args below meth cd A H locs ls hF hA hB hW hS hl
  have hcb : CallB (g_room (d + 1) mc ms) s args (kO k) ix (kY j) (kB j) (kN j) none (gws j) (g_room d mc1 ms1) mc1 ms1 av.length := by
    have := g_callB (d := d) (mc := mc) (ms := ms) (mc1 := mc1) (ms1 := ms1) hb hF.2.2.2.2.2.1
    rw [hr] at this
    exact this
  refine g_back (va_runI (b := b) (As := av) (rest := rest) ⟨hF.1, hF.2.1, hF.2.2.2.1, hF.2.2.2.2.1, hF.2.2.2.2.2.1⟩ (h A (fun q hq => hA q (Nat.le_trans hS.1 (by rw [hW.1]; exact hq))) hB) ⟨hcb, hy, hF.2.2.2.2.2.1 _ hi⟩ ⟨g_blind, fun U hU hv => g_pre (.ref b :: av) hF hB hW hS U hU hv⟩ rfl rfl hl.1 rfl (lv_room hw) hd ⟨hcc, hzz⟩) hS ?_
  intro v M1 H1 locs1 hq hW1 hS1
  exact hq p e s m args below meth cd A H1 locs1 ls hF hA hB hW1 hS1 hl
theorem g_callIN {ix b : Nat} {rest av : List Value} {mc1 ms1 : Nat} (j : gK) (pc' : Nat) (hd : decode (kB k) pc = .ok (.invokespecial ix, 3)) (hp : pc + 3 = pc') (hst : st = av.reverse ++ .ref b :: rest) (hb : g_MB (kO k) ix j av.length true) (hi : Cond.instanceMethod (kY j) ∈ gtbl) (hy : (kY j).name = "<init>") (hr : kR j = none) (hw : (rest.map fun v => v.category).sum ≤ 8) (hcc : c + mc1 ≤ mc) (hzz : z + ms1 ≤ ms)
    (h : Cn X d mc1 ms1 j (.ref b :: av) M (fun v M1 => Go X (d + 1) mc ms k Q pc' L (v.toList ++ rest) M1 (c + mc1) (z + ms1))) : Go X (d + 1) mc ms k Q pc L st M c z := by
  subst hp
  subst hst
  intro p e s m args below meth cd A H locs ls hF hA hB hW hS hl
  have hts := hF.2.2.2.2.2.1
  obtain ⟨b1, b2, b3, b4, b5⟩ := hb
  have b3 : (kO k, ix, kY j) ∈ g_nst := by simpa using b3
  have b3 := hF.2.2.2.2.2.2.2.2.2.2.2.1 _ b3
  have hcn := va_cnB (R := g_room (d + 1) mc ms) (own := kO k) (index := ix) (host := "PeeledHash") (rm := g_room d mc1 ms1) (mc := mc1) (ms := ms1) av.length hts (g_goodIn b1) rfl rfl rfl b3 (hts _ b2) b4 ⟨Nat.le_refl _, by show 8 + (kN j + 11) + 64 * d ≤ 64 * (d + 1); omega⟩
  rw [hr] at hcn
  refine g_back (va_runIN (b := b) (As := av) (rest := rest) ⟨hF.1, hF.2.1, hF.2.2.2.1, hF.2.2.2.2.1, hts⟩ (h A (fun q hq => hA q (Nat.le_trans hS.1 (by rw [hW.1]; exact hq))) hB) ⟨hcn, hy, hts _ hi⟩ ⟨g_blind, fun U hU hv => g_pre (.ref b :: av) hF hB hW hS U hU hv⟩ rfl rfl hl.1 rfl (lv_room hw) hd ⟨hcc, hzz⟩) hS ?_
  intro v M1 H1 locs1 hq hW1 hS1
  exact hq p e s m args below meth cd A H1 locs1 ls hF hA hB hW1 hS1 hl
/-- a method's contract, out of its walk -/
theorem g_meth {av : List Value} {L0 : List (Nat × Value)} (hy : plainName (kY k).cls = true) (ho : (kY k).cls = kO k) (hn : (lg_sl av).length ≤ kN k) (hL : lv_args 0 av = L0) (h : Go X d mc ms k Q 0 L0 [] M 0 0) : Cn X d mc ms k av M Q := by
  subst hL
  intro A hA hB
  refine Met.ofW (cc := kB k) (maxL := kN k) (ret := kR k) hy rfl ?_
  intro p e s m args below meth cd s₁ B hml hv
  obtain ⟨rfl, hW, hK, hStr⟩ := hv
  have hts := atoms_spec (ws := gws k) B.pre
  have hl := lv_entry av (n := kN k) hn
  rw [lg_entry_eq]
  refine h p e s m av.toArray below meth cd A s.heap [] _ ⟨B.exec, B.bytes, B.returns, hml, ?_, fun w hw => hts w (List.mem_cons_of_mem _ hw), B.notSynchronized, (name_of_methodNamed B.named B.method).1, hK, hStr⟩ (fun q hq => hA q (by rw [← hW.1]; exact hq)) hB hW va_S.rf hl
  rw [← ho]
  exact findClass_of_methodNamed B.named
end GO4
