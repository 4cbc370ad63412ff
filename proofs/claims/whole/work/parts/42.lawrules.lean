/-! The law's own rules: as those of the light machine, with what is known of the start (S: the script), another end (Z). -/
def Gs (S : State → Array Value → Prop) (Z : List Frame → Array Value → State → State → Prop) (X : gX) (d mc ms : Nat) (k : gK) (pc : Nat) (L : List (Nat × Value)) (st : List Value) (M : gM) (c z : Nat) : Prop :=
  ∀ (p : Program) (e : Env) (s : State) (m : MethodId) (args : Array Value) (below : List Frame) (meth : Method) (cd : Code) (A : Nat → Prop) (H : Heap) (locs : List Loc) (ls : Array Slot),
    S s args ∧ (∀ q, A q → s.heap.size ≤ q) → gFix X k p s m args meth cd → (∀ q, s.heap.size ≤ q → A q) → (∀ q, A q → gB X ≤ q) → g_Wd X A M H → va_S A s.heap H locs → lv_has ls (kN k) L →
    W p (gL X) e (g_room d mc ms) s m args below meth cd H locs c z (Z below args s) (F0 m pc ls st)
section GS2
variable {S : State → Array Value → Prop} {Z : List Frame → Array Value → State → State → Prop} {X : gX} {d mc ms : Nat} {k : gK} {pc : Nat} {L : List (Nat × Value)} {st : List Value} {M : gM} {c z : Nat}
theorem r_aload_n {q : Fin 4} {x : Nat} (j : Nat) (pc' : Nat) (hd : decode (kB k) pc = .ok (.aload_n q, 1)) (hp : pc + 1 = pc') (hj : L[j]? = some ((q : Nat), .ref x)) (h : Gs S Z X d mc ms k pc' L (.ref x :: st) M c z) : Gs S Z X d mc ms k pc L (st) M c z := by
  subst hp
  exact fun p e s m args below meth cd A H locs ls hsx hF hA hB hW hS hl => lv_aload_n hF.1 hF.2.1 hd rfl (lv_at hl j hj) (h p e s m args below meth cd A H locs ls hsx hF hA hB hW hS hl)
theorem r_iload_n {q : Fin 4} {x : Int32} (j : Nat) (pc' : Nat) (hd : decode (kB k) pc = .ok (.iload_n q, 1)) (hp : pc + 1 = pc') (hj : L[j]? = some ((q : Nat), .int x)) (h : Gs S Z X d mc ms k pc' L (.int x :: st) M c z) : Gs S Z X d mc ms k pc L (st) M c z := by
  subst hp
  exact fun p e s m args below meth cd A H locs ls hsx hF hA hB hW hS hl => lv_iload_n hF.1 hF.2.1 hd rfl (lv_at hl j hj) (h p e s m args below meth cd A H locs ls hsx hF hA hB hW hS hl)
theorem r_astore_n {q : Fin 4} {x : Nat} (pc' : Nat) (L' : List (Nat × Value)) (hd : decode (kB k) pc = .ok (.astore_n q, 1)) (hp : pc + 1 = pc') (hn : (q : Nat) < kN k) (hL : ((q : Nat), Value.ref x) :: L.filter (fun r => !(r.1 == (q : Nat)) && !(r.1 + 1 == (q : Nat) && r.2.category == 2)) = L') (h : Gs S Z X d mc ms k pc' L' st M c z) : Gs S Z X d mc ms k pc L (Value.ref x :: st) M c z := by
  subst hp
  exact fun p e s m args below meth cd A H locs ls hsx hF hA hB hW hS hl => lv_astore_n hF.1 hF.2.1 hd rfl hl hn hL (fun ls' hl' => h p e s m args below meth cd A H locs ls' hsx hF hA hB hW hS hl')
theorem r_istore_n {q : Fin 4} {x : Int32} (pc' : Nat) (L' : List (Nat × Value)) (hd : decode (kB k) pc = .ok (.istore_n q, 1)) (hp : pc + 1 = pc') (hn : (q : Nat) < kN k) (hL : ((q : Nat), Value.int x) :: L.filter (fun r => !(r.1 == (q : Nat)) && !(r.1 + 1 == (q : Nat) && r.2.category == 2)) = L') (h : Gs S Z X d mc ms k pc' L' st M c z) : Gs S Z X d mc ms k pc L (Value.int x :: st) M c z := by
  subst hp
  exact fun p e s m args below meth cd A H locs ls hsx hF hA hB hW hS hl => lv_istore_n hF.1 hF.2.1 hd rfl hl hn hL (fun ls' hl' => h p e s m args below meth cd A H locs ls' hsx hF hA hB hW hS hl')
theorem r_iconst {n : Int} (v : Int32) (pc' : Nat) (hd : decode (kB k) pc = .ok (.iconst n, 1)) (hp : pc + 1 = pc') (hv : Int32.ofInt n = v) (h : Gs S Z X d mc ms k pc' L (.int v :: st) M c z) : Gs S Z X d mc ms k pc L (st) M c z := by
  subst hp
  exact fun p e s m args below meth cd A H locs ls hsx hF hA hB hW hS hl => lv_iconst hF.1 hF.2.1 hd hv (h p e s m args below meth cd A H locs ls hsx hF hA hB hW hS hl)
theorem r_bipush {n : Int} (v : Int32) (pc' : Nat) (hd : decode (kB k) pc = .ok (.bipush n, 2)) (hp : pc + 2 = pc') (hv : (Int8.ofInt n).toInt32 = v) (h : Gs S Z X d mc ms k pc' L (.int v :: st) M c z) : Gs S Z X d mc ms k pc L (st) M c z := by
  subst hp
  exact fun p e s m args below meth cd A H locs ls hsx hF hA hB hW hS hl => lv_bipush hF.1 hF.2.1 hd hv (h p e s m args below meth cd A H locs ls hsx hF hA hB hW hS hl)
theorem r_iadd {x y : Int32} (pc' : Nat) (hd : decode (kB k) pc = .ok (.iadd, 1)) (hp : pc + 1 = pc') (h : Gs S Z X d mc ms k pc' L (.int (x + y) :: st) M c z) : Gs S Z X d mc ms k pc L (.int y :: .int x :: st) M c z := by
  subst hp
  exact fun p e s m args below meth cd A H locs ls hsx hF hA hB hW hS hl => lv_iadd hF.1 hF.2.1 hd (h p e s m args below meth cd A H locs ls hsx hF hA hB hW hS hl)
theorem r_isub {x y : Int32} (pc' : Nat) (hd : decode (kB k) pc = .ok (.isub, 1)) (hp : pc + 1 = pc') (h : Gs S Z X d mc ms k pc' L (.int (x - y) :: st) M c z) : Gs S Z X d mc ms k pc L (.int y :: .int x :: st) M c z := by
  subst hp
  exact fun p e s m args below meth cd A H locs ls hsx hF hA hB hW hS hl => lv_isub hF.1 hF.2.1 hd (h p e s m args below meth cd A H locs ls hsx hF hA hB hW hS hl)
theorem r_iand {x y : Int32} (pc' : Nat) (hd : decode (kB k) pc = .ok (.iand, 1)) (hp : pc + 1 = pc') (h : Gs S Z X d mc ms k pc' L (.int (x &&& y) :: st) M c z) : Gs S Z X d mc ms k pc L (.int y :: .int x :: st) M c z := by
  subst hp
  exact fun p e s m args below meth cd A H locs ls hsx hF hA hB hW hS hl => lv_iand hF.1 hF.2.1 hd (h p e s m args below meth cd A H locs ls hsx hF hA hB hW hS hl)
theorem r_dup {v : Value} (pc' : Nat) (hd : decode (kB k) pc = .ok (.dup, 1)) (hp : pc + 1 = pc') (hv : v.category = 1) (h : Gs S Z X d mc ms k pc' L (v :: v :: st) M c z) : Gs S Z X d mc ms k pc L (v :: st) M c z := by
  subst hp
  exact fun p e s m args below meth cd A H locs ls hsx hF hA hB hW hS hl => lv_dup hF.1 hF.2.1 hd hv (h p e s m args below meth cd A H locs ls hsx hF hA hB hW hS hl)
theorem r_icmp_gt {x y : Int32} {off : Int} (tgt pc' : Nat) (hd : decode (kB k) pc = .ok (.if_icmp .gt off, 3)) (ht : (pc : Int) + off = (tgt : Int)) (hp : pc + 3 = pc') (h1 : y < x → Gs S Z X d mc ms k tgt L st M c z) (h2 : ¬ y < x → Gs S Z X d mc ms k pc' L st M c z) : Gs S Z X d mc ms k pc L (.int y :: .int x :: st) M c z := by
  subst hp
  exact fun p e s m args below meth cd A H locs ls hsx hF hA hB hW hS hl => lv_icmp_gt hF.1 hF.2.1 hd ht (fun q => h1 q p e s m args below meth cd A H locs ls hsx hF hA hB hW hS hl) (fun q => h2 q p e s m args below meth cd A H locs ls hsx hF hA hB hW hS hl)
theorem r_icmp_eq {x y : Int32} {off : Int} (tgt pc' : Nat) (hd : decode (kB k) pc = .ok (.if_icmp .eq off, 3)) (ht : (pc : Int) + off = (tgt : Int)) (hp : pc + 3 = pc') (h1 : x = y → Gs S Z X d mc ms k tgt L st M c z) (h2 : ¬ x = y → Gs S Z X d mc ms k pc' L st M c z) : Gs S Z X d mc ms k pc L (.int y :: .int x :: st) M c z := by
  subst hp
  exact fun p e s m args below meth cd A H locs ls hsx hF hA hB hW hS hl => lv_icmp_eq hF.1 hF.2.1 hd ht (fun q => h1 q p e s m args below meth cd A H locs ls hsx hF hA hB hW hS hl) (fun q => h2 q p e s m args below meth cd A H locs ls hsx hF hA hB hW hS hl)
theorem r_goto {off : Int} (tgt : Nat) (hd : decode (kB k) pc = .ok (.goto off, 3)) (ht : (pc : Int) + off = (tgt : Int)) (h : Gs S Z X d mc ms k tgt L st M c z) : Gs S Z X d mc ms k pc L st M c z := fun p e s m args below meth cd A H locs ls hsx hF hA hB hW hS hl => lv_goto hF.1 hF.2.1 hd ht (h p e s m args below meth cd A H locs ls hsx hF hA hB hW hS hl)
theorem r_iinc {q : Nat} {n : Int} {x : Int32} (v : Int32) (j : Nat) (pc' : Nat) (L' : List (Nat × Value)) (hd : decode (kB k) pc = .ok (.iinc q n, 3)) (hp : pc + 3 = pc') (hj : L[j]? = some (q, .int x)) (hv : x + Int32.ofInt n = v) (hn : q < kN k) (hL : (q, Value.int v) :: L.filter (fun r => !(r.1 == q) && !(r.1 + 1 == q && r.2.category == 2)) = L') (h : Gs S Z X d mc ms k pc' L' st M c z) : Gs S Z X d mc ms k pc L st M c z := by
  subst hp
  exact fun p e s m args below meth cd A H locs ls hsx hF hA hB hW hS hl => lv_iinc hF.1 hF.2.1 hd hl hj hv hn hL (fun ls' hl' => h p e s m args below meth cd A H locs ls' hsx hF hA hB hW hS hl')
theorem r_lcmp {x y : Int64} (pc' : Nat) (hd : decode (kB k) pc = .ok (.lcmp, 1)) (hp : pc + 1 = pc') (h : Gs S Z X d mc ms k pc' L (.int (lg_cmp x y) :: st) M c z) : Gs S Z X d mc ms k pc L (.long y :: .long x :: st) M c z := by
  subst hp
  exact fun p e s m args below meth cd A H locs ls hsx hF hA hB hW hS hl => W.lcmp hF.1 hF.2.1 hd (h p e s m args below meth cd A H locs ls hsx hF hA hB hW hS hl)
theorem r_if_eq {x : Int32} {off : Int} (tgt pc' : Nat) (hd : decode (kB k) pc = .ok (.ifCond .eq off, 3)) (ht : (pc : Int) + off = (tgt : Int)) (hp : pc + 3 = pc') (h1 : x = 0 → Gs S Z X d mc ms k tgt L st M c z) (h2 : ¬ x = 0 → Gs S Z X d mc ms k pc' L st M c z) : Gs S Z X d mc ms k pc L (.int x :: st) M c z := by
  subst hp
  exact fun p e s m args below meth cd A H locs ls hsx hF hA hB hW hS hl => lv_if_eq hF.1 hF.2.1 hd ht (fun q => h1 q p e s m args below meth cd A H locs ls hsx hF hA hB hW hS hl) (fun q => h2 q p e s m args below meth cd A H locs ls hsx hF hA hB hW hS hl)
theorem r_tableIn {dflt lo hi : Int} {offs : Array Int} {len : Nat} {x : Int32} {off : Int} (tgt : Nat) (hd : decode (kB k) pc = .ok (.tableswitch dflt lo hi offs, len)) (h1 : ¬ x.toInt < lo) (h2 : ¬ hi < x.toInt) (ho : offs[(x.toInt - lo).toNat]? = some off) (ht : (pc : Int) + off = (tgt : Int)) (h : Gs S Z X d mc ms k tgt L st M c z) : Gs S Z X d mc ms k pc L (.int x :: st) M c z := fun p e s m args below meth cd A H locs ls hsx hF hA hB hW hS hl => lv_tableIn hF.1 hF.2.1 hd h1 h2 ho ht (h p e s m args below meth cd A H locs ls hsx hF hA hB hW hS hl)
theorem r_tableOut {dflt lo hi : Int} {offs : Array Int} {len : Nat} {x : Int32} (tgt : Nat) (hd : decode (kB k) pc = .ok (.tableswitch dflt lo hi offs, len)) (h1 : x.toInt < lo ∨ hi < x.toInt) (ht : (pc : Int) + dflt = (tgt : Int)) (h : Gs S Z X d mc ms k tgt L st M c z) : Gs S Z X d mc ms k pc L (.int x :: st) M c z := fun p e s m args below meth cd A H locs ls hsx hF hA hB hW hS hl => lv_tableOut hF.1 hF.2.1 hd h1 ht (h p e s m args below meth cd A H locs ls hsx hF hA hB hW hS hl)
theorem r_newo {ix ci N : Nat} {C : String} {T : u_T} {ty : Nat → FieldType} (pc' : Nat) (hd : decode (kB k) pc = .ok (.new ix, 3)) (hp : pc + 3 = pc') (hc : g_Cl ci C T N ty) (hm : Cond.classLink (kO k) ix C ∈ gtbl) (hi : Cond.instantiable C N ∈ gtbl) (hini : Cond.initialized C ∈ gtbl) (hcc : c + 1 ≤ mc) (hzz : z + N ≤ ms) (h : Gs S Z X d mc ms k pc' L (.ref (g_nx M) :: st) (g_new M ci N) (c + 1) (z + N)) : Gs S Z X d mc ms k pc L st M c z := by
  subst hp
  obtain ⟨c1, c2, c3, c4, c5⟩ := hc
  intro p e s m args below meth cd A H locs ls hsx hF hA hB hW hS hl
  have hK := hF.2.2.2.2.2.2.2.2.1
  have hts := hF.2.2.2.2.2.1
  have hKn := hK.1 ci _ c1
  refine W.newcK hF.1 hF.2.1 hF.2.2.2.2.1 (hts _ hm) (hts _ hi) (hts _ hini) rfl hd hcc hzz hKn.2.1 rfl fun H1 kC hkC e1 z1 o1 => ?_
  have hHA : A H.size := hA _ hS.1
  have hx := h p e s m args below meth cd A H1 locs ls hsx hF hA hB (hW.push rfl z1 o1 hHA (hB _ hHA) ?_) ⟨Nat.le_trans hS.1 (by omega), fun x h1 h2 => (o1 x (Nat.lt_of_lt_of_le h1 hS.1)).trans (hS.2.1 x h1 h2), hS.2.2⟩ hl
  · rw [← hW.1] at hx
    exact hx
  · have hkd : g_kd (g_new M ci N) H.size = some (ci, N) := by rw [g_kd_new, hW.1]; simp [va_up]
    rw [g_ent_obj hkd (g_lt10 c1)]
    refine ⟨_, c1, (u_born ty hts c2 hKn hkC e1 c3).to fun j hj => ?_⟩
    have hfv : g_fv (g_new M ci N) H.size ci j = defaultValue (ty j) := by
      simp only [g_fv, g_mr_new, g_mi_new, hW.1, va_up, if_true]
      cases hr : g_isR ci j with
      | true => simp [(c5 j hj).1 hr, va_rf]
      | false => simp [(c5 j hj).2 hr]
    show defaultValue (ty j) = ((List.range N).map (g_fv (g_new M ci N) H.size ci)).getD j .null
    rw [List.getD_eq_getElem?_getD, g_fs_at hj, hfv]
    rfl
theorem r_callI {ix b : Nat} {rest av : List Value} {mc1 ms1 : Nat} (j : gK) (pc' : Nat) (hd : decode (kB k) pc = .ok (.invokespecial ix, 3)) (hp : pc + 3 = pc') (hst : st = av.reverse ++ .ref b :: rest) (hb : g_MB (kO k) ix j av.length false) (hi : Cond.instanceMethod (kY j) ∈ gtbl) (hy : (kY j).name = "<init>") (hr : kR j = none) (hw : (rest.map fun v => v.category).sum ≤ 8) (hcc : c + mc1 ≤ mc) (hzz : z + ms1 ≤ ms)
    (h : Cn X d mc1 ms1 j (.ref b :: av) M (fun v M1 => Gs S Z X (d + 1) mc ms k pc' L (v.toList ++ rest) M1 (c + mc1) (z + ms1))) : Gs S Z X (d + 1) mc ms k pc L st M c z := by
  subst hp
  subst hst
  intro p e s m args below meth cd A H locs ls hsx hF hA hB hW hS hl
  have hcb : CallB (g_room (d + 1) mc ms) s args (kO k) ix (kY j) (kB j) (kN j) none (gws j) (g_room d mc1 ms1) mc1 ms1 av.length := by
    have := g_callB (d := d) (mc := mc) (ms := ms) (mc1 := mc1) (ms1 := ms1) hb hF.2.2.2.2.2.1
    rw [hr] at this
    exact this
  refine g_back (va_runI (b := b) (As := av) (rest := rest) ⟨hF.1, hF.2.1, hF.2.2.2.1, hF.2.2.2.2.1, hF.2.2.2.2.2.1⟩ (h A (fun q hq => hA q (Nat.le_trans hS.1 (by rw [hW.1]; exact hq))) hB) ⟨hcb, hy, hF.2.2.2.2.2.1 _ hi⟩ ⟨g_blind, fun U hU hv => g_pre (.ref b :: av) hF hB hW hS U hU hv⟩ rfl rfl hl.1 rfl (lv_room hw) hd ⟨hcc, hzz⟩) hS ?_
  intro v M1 H1 locs1 hq hW1 hS1
  exact hq p e s m args below meth cd A H1 locs1 ls hsx hF hA hB hW1 hS1 hl
theorem r_callV {ix b ci N : Nat} {C : String} {T : u_T} {rest av : List Value} {mc1 ms1 : Nat} (j : gK) (pc' : Nat) (hd : decode (kB k) pc = .ok (.invokevirtual ix, 3)) (hp : pc + 3 = pc') (hst : st = av.reverse ++ .ref b :: rest) (hb : g_MB (kO k) ix j av.length false) (hi : Cond.instanceMethod (kY j) ∈ gtbl) (hs : Cond.selects C (kY j) (kY j) ∈ gtbl) (hc : vwCl[ci]? = some (C, T, N)) (hk : g_kd M b = some (ci, N)) (hw : (rest.map fun v => v.category).sum ≤ 8) (hcc : c + mc1 ≤ mc) (hzz : z + ms1 ≤ ms)
    (h : Cn X d mc1 ms1 j (.ref b :: av) M (fun v M1 => Gs S Z X (d + 1) mc ms k pc' L (v.toList ++ rest) M1 (c + mc1) (z + ms1))) : Gs S Z X (d + 1) mc ms k pc L st M c z := by
  subst hp
  subst hst
  intro p e s m args below meth cd A H locs ls hsx hF hA hB hW hS hl
  refine g_back (va_runV (C := C) (b := b) (As := av) (rest := rest) ⟨hF.1, hF.2.1, hF.2.2.2.1, hF.2.2.2.2.1, hF.2.2.2.2.2.1⟩ (h A (fun q hq => hA q (Nat.le_trans hS.1 (by rw [hW.1]; exact hq))) hB) ⟨g_callB hb hF.2.2.2.2.2.1, hF.2.2.2.2.2.1 _ hi, hF.2.2.2.2.2.1 _ hs⟩ ⟨g_blind, g_recv hF hW hk hc, fun U hU hv => g_pre (.ref b :: av) hF hB hW hS U hU hv⟩ rfl rfl hl.1 rfl (lv_room hw) hd ⟨hcc, hzz⟩) hS ?_
  intro v M1 H1 locs1 hq hW1 hS1
  exact hq p e s m args below meth cd A H1 locs1 ls hsx hF hA hB hW1 hS1 hl
theorem r_tabIn {dflt lo hi : Int} {offs : Array Int} {len : Nat} {x : Int32} {off : Int} (v : Int32) (tgt : Nat) (hd : decode (kB k) pc = .ok (.tableswitch dflt lo hi offs, len)) (hx : x = v) (h1 : ¬ v.toInt < lo) (h2 : ¬ hi < v.toInt) (ho : offs[(v.toInt - lo).toNat]? = some off) (ht : (pc : Int) + off = (tgt : Int)) (h : Gs S Z X d mc ms k tgt L st M c z) : Gs S Z X d mc ms k pc L (.int x :: st) M c z := by
  subst hx; exact r_tableIn tgt hd h1 h2 ho ht h
theorem r_newi {ix ci N : Nat} {C : String} {T : u_T} {ty : Nat → FieldType} (pc' b : Nat) (hd : decode (kB k) pc = .ok (.new ix, 3)) (hp : pc + 3 = pc') (hc : g_Cl ci C T N ty) (hm : Cond.classLink (kO k) ix C ∈ gtbl) (hi : Cond.instantiable C N ∈ gtbl) (hini : Cond.initialized C ∈ gtbl) (hcc : c + 1 ≤ mc) (hzz : z + N ≤ ms) (hb : g_nx M = b) (h : Gs S Z X d mc ms k pc' L (.ref b :: st) (g_new M ci N) (c + 1) (z + N)) : Gs S Z X d mc ms k pc L st M c z := by
  subst hb; exact r_newo pc' hd hp hc hm hi hini hcc hzz h
/-- the script's ints, its length -/
theorem r_sld {b Ls : Nat} {xs : Nat → Int32} {i x : Int32} (pc' : Nat) (hX : ∀ s args, S s args → va_X b Ls xs s s.heap ∧ b < s.heap.size) (hd : decode (kB k) pc = .ok (.iaload, 1)) (hp : pc + 1 = pc') (hin : vp_in i Ls) (hx : xs i.toNatClampNeg = x) (h : Gs S Z X d mc ms k pc' L (.int x :: st) M c z) : Gs S Z X d mc ms k pc L (.int i :: .ref b :: st) M c z := by
  subst hp
  subst hx
  intro p e s m args below meth cd A H locs ls hs hF hA hB hW hS hl
  obtain ⟨x1, x2⟩ := hX s args hs.1
  exact va_sld hF.1 hF.2.1 x1 x2 (fun q => Nat.not_lt.mpr (hs.2 _ q) x2) hS hin hd (h p e s m args below meth cd A H locs ls hs hF hA hB hW hS hl)
theorem r_slen {b Ls : Nat} {xs : Nat → Int32} {v : Int32} (pc' : Nat) (hX : ∀ s args, S s args → va_X b Ls xs s s.heap ∧ b < s.heap.size) (hd : decode (kB k) pc = .ok (.arraylength, 1)) (hp : pc + 1 = pc') (hv : Int32.ofNat Ls = v) (h : Gs S Z X d mc ms k pc' L (.int v :: st) M c z) : Gs S Z X d mc ms k pc L (.ref b :: st) M c z := by
  subst hp
  subst hv
  intro p e s m args below meth cd A H locs ls hs hF hA hB hW hS hl
  obtain ⟨x1, x2⟩ := hX s args hs.1
  exact va_slen hF.1 hF.2.1 x1 x2 (fun q => Nat.not_lt.mpr (hs.2 _ q) x2) hS hd (h p e s m args below meth cd A H locs ls hs hF hA hB hW hS hl)
theorem r_fresh (h : (∀ c, g_kd M c ≠ none → c < g_nx M) → Gs S Z X d mc ms k pc L st M c z) : Gs S Z X d mc ms k pc L st M c z := by
  intro p e s m args below meth cd A H locs ls hs hF hA hB hW hS hl
  refine h (fun q hq => ?_) p e s m args below meth cd A H locs ls hs hF hA hB hW hS hl
  rw [← hW.1]
  exact (hW.2 q hq).2.2.lt
end GS2
