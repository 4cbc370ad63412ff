/-! The light machine: array stores, new cells, copies, calls, ends. -/
section GO3
variable {X : gX} {d mc ms : Nat} {k : gK} {Q : Option Value → gM → Prop} {pc : Nat} {L : List (Nat × Value)} {st : List Value} {M : gM} {c z : Nat}
theorem g_wi_row {M : gM} {a i : Nat} {v : Int32} : (fun j => Value.int (g_mi (g_wi M a i v) a j)) = updV (fun j => .int (g_mi M a j)) i (.int v) := by
  funext j
  by_cases h : j = i
  · simp [g_mi_wi, g_u2, updV, h]
  · simp [g_mi_wi, g_u2, updV, h]
theorem g_wl_row {M : gM} {a i : Nat} {v : Int64} : (fun j => Value.long (g_ml (g_wl M a i v) a j)) = updV (fun j => .long (g_ml M a j)) i (.long v) := by
  funext j
  by_cases h : j = i
  · simp [g_ml_wl, g_u2, updV, h]
  · simp [g_ml_wl, g_u2, updV, h]
theorem g_wr_row {M : gM} {a i : Nat} {v : Option Nat} : (fun j => va_rf (g_mr (g_wr M a i v) a j)) = updV (fun j => va_rf (g_mr M a j)) i (va_rf v) := by
  funext j
  by_cases h : j = i
  · simp [g_mr_wr, g_u2, updV, h]
  · simp [g_mr_wr, g_u2, updV, h]
theorem g_iastore {a n : Nat} {i x : Int32} (pc' : Nat) (hd : decode (kB k) pc = .ok (.iastore, 1)) (hp : pc + 1 = pc') (hk : g_kd M a = some (100, n)) (hin : vp_in i n) (h : Go X d mc ms k Q pc' L st (g_wi M a i.toNatClampNeg x) c z) : Go X d mc ms k Q pc L (.int x :: .int i :: .ref a :: st) M c z := by
  subst hp
  intro p e s m args below meth cd A H locs ls hF hA hB hW hS hl
  obtain ⟨w1, w2, hat⟩ := hW.2 a (by rw [hk]; simp)
  rw [g_ent_i (t := 0) hk (by omega)] at hat
  have hK := hF.2.2.2.2.2.2.2.2.1
  refine W.iast hF.1 hF.2.1 hat ((hK.2 0 _ rfl).1 n (fun j => .int (g_mi M a j))) (fun q => by cases q) (by show ¬ (i < 0 ∨ (arrV _ _ _).slots.size ≤ _); rw [arrV_size]; exact hin) rfl rfl hd fun H1 e1 e2 e3 => ?_
  refine h p e s m args below meth cd A H1 _ ls hF hA hB (hW.put rfl rfl g_wi_ent e2 e3 fun _ => ?_) (hS.put e2 e3 w2) hl
  rw [g_ent_i (t := 0) (M := g_wi M a i.toNatClampNeg x) hk (by omega)]
  show H1[a]? = some (vp_cell _ _)
  rw [e1, vp_cell_i, vp_cell_i, arrV_store, g_wi_row]
theorem g_bastore {a n : Nat} {i x : Int32} (pc' : Nat) (hd : decode (kB k) pc = .ok (.bastore, 1)) (hp : pc + 1 = pc') (hk : g_kd M a = some (101, n)) (hin : vp_in i n) (hx : narrow .byte (.int x) = .int x) (h : Go X d mc ms k Q pc' L st (g_wi M a i.toNatClampNeg x) c z) : Go X d mc ms k Q pc L (.int x :: .int i :: .ref a :: st) M c z := by
  subst hp
  intro p e s m args below meth cd A H locs ls hF hA hB hW hS hl
  obtain ⟨w1, w2, hat⟩ := hW.2 a (by rw [hk]; simp)
  rw [g_ent_i (t := 1) hk (by omega)] at hat
  have hK := hF.2.2.2.2.2.2.2.2.1
  refine W.bast hF.1 hF.2.1 hat ((hK.2 1 _ rfl).1 n (fun j => .int (g_mi M a j))) (fun q => by cases q) (by show ¬ (i < 0 ∨ (arrV _ _ _).slots.size ≤ _); rw [arrV_size]; exact hin) rfl rfl hd fun H1 e1 e2 e3 => ?_
  refine h p e s m args below meth cd A H1 _ ls hF hA hB (hW.put rfl rfl g_wi_ent e2 e3 fun _ => ?_) (hS.put e2 e3 w2) hl
  rw [g_ent_i (t := 1) (M := g_wi M a i.toNatClampNeg x) hk (by omega)]
  show H1[a]? = some (vp_cell _ _)
  rw [e1, vp_cell_i, vp_cell_i, arrV_store, g_wi_row, hx]
theorem g_zastore {a n : Nat} {i x : Int32} (pc' : Nat) (hd : decode (kB k) pc = .ok (.bastore, 1)) (hp : pc + 1 = pc') (hk : g_kd M a = some (102, n)) (hin : vp_in i n) (hx : x = 0 ∨ x = 1) (h : Go X d mc ms k Q pc' L st (g_wi M a i.toNatClampNeg x) c z) : Go X d mc ms k Q pc L (.int x :: .int i :: .ref a :: st) M c z := by
  subst hp
  intro p e s m args below meth cd A H locs ls hF hA hB hW hS hl
  obtain ⟨w1, w2, hat⟩ := hW.2 a (by rw [hk]; simp)
  rw [g_ent_i (t := 2) hk (by omega)] at hat
  have hK := hF.2.2.2.2.2.2.2.2.1
  refine W.zast hF.1 hF.2.1 hat ((hK.2 2 _ rfl).1 n (fun j => .int (g_mi M a j))) (fun q => by cases q) (by show ¬ (i < 0 ∨ (arrV _ _ _).slots.size ≤ _); rw [arrV_size]; exact hin) rfl rfl hd fun H1 e1 e2 e3 => ?_
  refine h p e s m args below meth cd A H1 _ ls hF hA hB (hW.put rfl rfl g_wi_ent e2 e3 fun _ => ?_) (hS.put e2 e3 w2) hl
  rw [g_ent_i (t := 2) (M := g_wi M a i.toNatClampNeg x) hk (by omega)]
  show H1[a]? = some (vp_cell _ _)
  rw [e1, vp_cell_i, vp_cell_i, arrV_store, g_wi_row, show narrow .boolean (.int x) = .int x by rcases hx with rfl | rfl <;> rfl]
theorem g_lastore {a n : Nat} {i : Int32} {x : Int64} (pc' : Nat) (hd : decode (kB k) pc = .ok (.lastore, 1)) (hp : pc + 1 = pc') (hk : g_kd M a = some (103, n)) (hin : vp_in i n) (h : Go X d mc ms k Q pc' L st (g_wl M a i.toNatClampNeg x) c z) : Go X d mc ms k Q pc L (.long x :: .int i :: .ref a :: st) M c z := by
  subst hp
  intro p e s m args below meth cd A H locs ls hF hA hB hW hS hl
  obtain ⟨w1, w2, hat⟩ := hW.2 a (by rw [hk]; simp)
  rw [g_ent_l hk] at hat
  have hK := hF.2.2.2.2.2.2.2.2.1
  refine W.last hF.1 hF.2.1 hat ((hK.2 3 _ rfl).1 n (fun j => .long (g_ml M a j))) (fun q => by cases q) (by show ¬ (i < 0 ∨ (arrV _ _ _).slots.size ≤ _); rw [arrV_size]; exact hin) rfl rfl hd fun H1 e1 e2 e3 => ?_
  refine h p e s m args below meth cd A H1 _ ls hF hA hB (hW.put rfl rfl g_wl_ent e2 e3 fun _ => ?_) (hS.put e2 e3 w2) hl
  rw [g_ent_l (M := g_wl M a i.toNatClampNeg x) hk]
  show H1[a]? = some (vp_cell _ _)
  rw [e1, vp_cell_l, vp_cell_l, arrV_store, g_wl_row]
theorem g_aastore {a n t v ci N : Nat} {C : String} {T : u_T} {i : Int32} (pc' : Nat) (hd : decode (kB k) pc = .ok (.aastore, 1)) (hp : pc + 1 = pc') (hk : g_kd M a = some (100 + t, n)) (ht : 4 ≤ t) (hty : (g_atys (gC X))[t]? = some (gC X t, .object C)) (hv : g_kd M v = some (ci, N)) (hc : vwCl[ci]? = some (C, T, N)) (hin : vp_in i n) (h : Go X d mc ms k Q pc' L st (g_wr M a i.toNatClampNeg (some v)) c z) : Go X d mc ms k Q pc L (.ref v :: .int i :: .ref a :: st) M c z := by
  subst hp
  intro p e s m args below meth cd A H locs ls hF hA hB hW hS hl
  obtain ⟨w1, w2, hat⟩ := hW.2 a (by rw [hk]; simp)
  obtain ⟨-, -, hatv⟩ := hW.2 v (by rw [hv]; simp)
  rw [g_ent_q hk ht] at hat
  rw [g_ent_obj hv (g_lt10 hc)] at hatv
  have hK := hF.2.2.2.2.2.2.2.2.1
  have hlt : i.toNatClampNeg < n := Nat.not_le.mp fun q => hin (Or.inr q)
  have h0 : ¬ i < 0 := fun q => hin (Or.inl q)
  obtain ⟨r', hr', cellV, g1, g2, g3, -⟩ := hatv
  have hcls := (hK.1 ci _ hc).2
  obtain ⟨kA, comp, k1, k2, k3, -⟩ := (hK.2 t _ hty).2
  have hcomp : comp = (gD X).1 ci := Option.some.inj (k3.symm.trans hcls.1)
  subst hcomp
  obtain ⟨kC, hkC, -⟩ := hcls.2
  refine W.aast hF.1 hF.2.1 hat (fun q h => by cases h) (fun h => by cases h) k1 k2 rfl hkC ⟨h0, by show _ < (arrV _ _ _).slots.size; rw [arrV_size]; exact hlt⟩ g1 (fun q h => by rw [g3] at h; cases h) (by rw [g2]; exact hkC) (by rw [g2]; exact va_assign hcls) rfl rfl hd fun H1 e1 e2 e3 => ?_
  refine h p e s m args below meth cd A H1 _ ls hF hA hB (hW.put rfl rfl g_wr_ent e2 e3 fun _ => ?_) (hS.put e2 e3 w2) hl
  rw [g_ent_q (M := g_wr M a i.toNatClampNeg (some v)) hk ht]
  show H1[a]? = some (vp_cell _ _)
  rw [e1, vp_cell_q, vp_cell_q, arrV_store, g_wr_row]
  rfl
theorem g_newo {ix ci N : Nat} {C : String} {T : u_T} {ty : Nat → FieldType} (pc' : Nat) (hd : decode (kB k) pc = .ok (.new ix, 3)) (hp : pc + 3 = pc') (hc : g_Cl ci C T N ty) (hm : Cond.classLink (kO k) ix C ∈ gtbl) (hi : Cond.instantiable C N ∈ gtbl) (hini : Cond.initialized C ∈ gtbl) (hcc : c + 1 ≤ mc) (hzz : z + N ≤ ms) (h : Go X d mc ms k Q pc' L (.ref (g_nx M) :: st) (g_new M ci N) (c + 1) (z + N)) : Go X d mc ms k Q pc L st M c z := by
  subst hp
  obtain ⟨c1, c2, c3, c4, c5⟩ := hc
  intro p e s m args below meth cd A H locs ls hF hA hB hW hS hl
  have hK := hF.2.2.2.2.2.2.2.2.1
  have hts := hF.2.2.2.2.2.1
  have hKn := hK.1 ci _ c1
  refine W.newcK hF.1 hF.2.1 hF.2.2.2.2.1 (hts _ hm) (hts _ hi) (hts _ hini) rfl hd hcc hzz hKn.2.1 rfl fun H1 kC hkC e1 z1 o1 => ?_
  have hHA : A H.size := hA _ hS.1
  have hx := h p e s m args below meth cd A H1 locs ls hF hA hB (hW.push rfl z1 o1 hHA (hB _ hHA) ?_) ⟨Nat.le_trans hS.1 (by omega), fun x h1 h2 => (o1 x (Nat.lt_of_lt_of_le h1 hS.1)).trans (hS.2.1 x h1 h2), hS.2.2⟩ hl
  · rw [← hW.1] at hx
    exact hx
  · have hkd : g_kd (g_new M ci N) H.size = some (ci, N) := by rw [g_kd_new, hW.1]; simp [va_up]
    rw [g_ent_obj hkd (g_lt10 c1)]
    refine ⟨_, c1, (u_born ty hts c2 hKn hkC e1 c3).to fun j hj => ?_⟩
    have hfv : g_fv (g_new M ci N) H.size ci j = defaultValue (ty j) := by
      simp only [g_fv, g_mr_new, g_mi_new, hW.1, va_up, if_true]
      cases hr : g_isR ci j with
      | true => simp [(c5 j hj).1 hr, va_rf]
      | false => simp [(c5 j hj).2 hr]
    show defaultValue (ty j) = ((List.range N).map (g_fv (g_new M ci N) H.size ci)).getD j .null
    rw [List.getD_eq_getElem?_getD, g_fs_at hj, hfv]
    rfl
theorem g_newa {at_ : ArrayType} {t n : Nat} {x : Int32} (pc' : Nat) (hd : decode (kB k) pc = .ok (.newarray at_, 2)) (hp : pc + 2 = pc') (hat : newarray.typeOf at_ = g_aty t) (ht : t < 4) (hm : Cond.arrayClass (g_aty t) ∈ gtbl) (hx : ¬ x < 0) (hn : x.toNatClampNeg = n) (hnn : n ≤ 1000000) (hcc : c + 1 ≤ mc) (hzz : z + n ≤ ms) (h : Go X d mc ms k Q pc' L (.ref (g_nx M) :: st) (g_new M (100 + t) n) (c + 1) (z + n)) : Go X d mc ms k Q pc L (.int x :: st) M c z := by
  subst hp
  intro p e s m args below meth cd A H locs ls hF hA hB hW hS hl
  have hK := hF.2.2.2.2.2.2.2.2.1
  have hts := hF.2.2.2.2.2.1
  have hby : n * componentBytes (newarray.typeOf at_) ≤ 536870912 := by
    have : componentBytes (newarray.typeOf at_) ≤ 8 := by
      rw [hat]
      rcases (show t = 0 ∨ t = 1 ∨ t = 2 ∨ t = 3 by omega) with rfl | rfl | rfl | rfl <;> decide
    calc n * componentBytes (newarray.typeOf at_) ≤ n * 8 := Nat.mul_le_mul_left n this
      _ ≤ 536870912 := by omega
  refine va_newaK hF.1 hF.2.1 (by rw [hat]; exact hts _ hm) rfl hd rfl hx hn hby hcc hzz rfl fun H1 cA e1 z1 o1 hAr hNm => ?_
  have hHA : A H.size := hA _ hS.1
  have hcA : cA = gC X t := by
    rw [hat] at hNm
    have h2 : s.vm.findClass ("[" ++ (g_aty t).toString) = some (gC X t) := by
      rcases (show t = 0 ∨ t = 1 ∨ t = 2 ∨ t = 3 by omega) with rfl | rfl | rfl | rfl
      · exact (hK.2 0 _ rfl).2
      · exact (hK.2 1 _ rfl).2
      · exact (hK.2 2 _ rfl).2
      · exact (hK.2 3 _ rfl).2
    exact Option.some.inj (hNm.symm.trans h2)
  have hx2 := h p e s m args below meth cd A H1 locs ls hF hA hB (hW.push rfl z1 o1 hHA (hB _ hHA) ?_) ⟨Nat.le_trans hS.1 (by omega), fun x h1 h2 => (o1 x (Nat.lt_of_lt_of_le h1 hS.1)).trans (hS.2.1 x h1 h2), hS.2.2⟩ hl
  · rw [← hW.1] at hx2
    exact hx2
  · have hkd : g_kd (g_new M (100 + t) n) H.size = some (100 + t, n) := by rw [g_kd_new, hW.1]; simp [va_up]
    rw [hat, hcA] at e1
    by_cases h3 : t < 3
    · rw [g_ent_i hkd h3]
      have e5 : (fun _ : Nat => defaultValue (g_aty t)) = fun j => Value.int (g_mi (g_new M (100 + t) n) H.size j) := by
        funext j
        rw [g_mi_new, hW.1]
        rcases (show t = 0 ∨ t = 1 ∨ t = 2 by omega) with rfl | rfl | rfl <;> simp [va_up, g_aty, defaultValue]
      rw [e5] at e1
      exact e1
    · have : t = 3 := by omega
      subst this
      rw [g_ent_l hkd]
      have e5 : (fun _ : Nat => defaultValue (g_aty 3)) = fun j => Value.long (g_ml (g_new M (100 + 3) n) H.size j) := by
        funext j
        rw [g_ml_new, hW.1]
        simp [va_up, g_aty, defaultValue]
      rw [e5] at e1
      exact e1
theorem g_newq {ix t n : Nat} {C : String} {x : Int32} (pc' : Nat) (hd : decode (kB k) pc = .ok (.anewarray ix, 3)) (hp : pc + 3 = pc') (ht : 4 ≤ t) (hty : (g_atys (gC X))[t]? = some (gC X t, .object C)) (hm : Cond.classLink (kO k) ix C ∈ gtbl) (ho : C ∈ [RX3, RX6, RX7]) (hx : ¬ x < 0) (hn : x.toNatClampNeg = n) (hnn : n ≤ 1000000) (hcc : c + 1 ≤ mc) (hzz : z + n ≤ ms) (h : Go X d mc ms k Q pc' L (.ref (g_nx M) :: st) (g_new M (100 + t) n) (c + 1) (z + n)) : Go X d mc ms k Q pc L (.int x :: st) M c z := by
  subst hp
  subst hn
  intro p e s m args below meth cd A H locs ls hF hA hB hW hS hl
  have hK := hF.2.2.2.2.2.2.2.2.1
  have hts := hF.2.2.2.2.2.1
  refine W.anew hF.1 hF.2.1 hF.2.2.2.2.1 (hts _ hm) (va_AO.use (hF.2.2.2.2.2.2.2.2.2.2.2.2.1 C ho)) rfl hd rfl hx (by omega) hcc hzz fun cA kA comp f1 f2 f3 f4 => ?_
  generalize hH1 : H.push ({ cls := cA, slots := Array.replicate x.toNatClampNeg .null, vm := .none } : Cell) = H1
  have z1 : H1.size = H.size + 1 := by rw [← hH1, Array.size_push]
  have e1 : H1[H.size]? = some (arrV cA x.toNatClampNeg (fun _ => .null)) := by rw [← hH1, Array.getElem?_push_size, ← arrV_new]
  have o1 : ∀ q : Nat, q < H.size → H1[q]? = H[q]? := fun q hq => by rw [← hH1, Array.getElem?_push, if_neg (Nat.ne_of_lt hq)]
  have hHA : A H.size := hA _ hS.1
  have hcA : cA = gC X t := by
    obtain ⟨-, -, -, -, -, h4⟩ := (hK.2 t _ hty).2
    exact Option.some.inj (f1.symm.trans h4)
  have hx2 := h p e s m args below meth cd A H1 locs ls hF hA hB (hW.push rfl z1 o1 hHA (hB _ hHA) ?_) ⟨Nat.le_trans hS.1 (by omega), fun x h1 h2 => (o1 x (Nat.lt_of_lt_of_le h1 hS.1)).trans (hS.2.1 x h1 h2), hS.2.2⟩ hl
  · rw [← hW.1] at hx2
    exact hx2
  · have hkd : g_kd (g_new M (100 + t) x.toNatClampNeg) H.size = some (100 + t, x.toNatClampNeg) := by rw [g_kd_new, hW.1]; simp [va_up]
    rw [hcA] at e1
    rw [g_ent_q hkd ht]
    have e5 : (fun _ : Nat => Value.null) = fun j => va_rf (g_mr (g_new M (100 + t) x.toNatClampNeg) H.size j) := by
      funext j
      rw [g_mr_new, hW.1]
      simp [va_up, va_rf]
    rw [e5] at e1
    exact e1
/-- ends -/
theorem g_iret {v : Int32} (hd : decode (kB k) pc = .ok (.ireturn, 1)) (hr : kR k = some .int) (hcc : c ≤ mc) (hzz : z ≤ ms) (hq : Q (some (.int v)) M) : Go X d mc ms k Q pc L [.int v] M c z :=
  fun p e s m args below meth cd A H locs ls hF hA hB hW hS hl => W.widen hcc hzz (W.iret hF.1 hF.2.1 (hF.2.2.1.trans hr) (fun t ht hWm => ⟨⟨_, _, rfl, hq, by rw [ht]; exact hW⟩, hS.F ht⟩) hS.2.2 hd hF.2.2.2.2.2.2.1)
theorem g_zret {v : Int32} (hd : decode (kB k) pc = .ok (.ireturn, 1)) (hr : kR k = some .boolean) (hv : v = 0 ∨ v = 1) (hcc : c ≤ mc) (hzz : z ≤ ms) (hq : Q (some (.int v)) M) : Go X d mc ms k Q pc L [.int v] M c z :=
  fun p e s m args below meth cd A H locs ls hF hA hB hW hS hl => W.widen hcc hzz (W.zret hF.1 hF.2.1 (hF.2.2.1.trans hr) (by rcases hv with rfl | rfl <;> rfl) (fun t ht hWm => ⟨⟨_, _, rfl, hq, by rw [ht]; exact hW⟩, hS.F ht⟩) hS.2.2 hd hF.2.2.2.2.2.2.1)
theorem g_lret {v : Int64} (hd : decode (kB k) pc = .ok (.lreturn, 1)) (hr : kR k = some .long) (hcc : c ≤ mc) (hzz : z ≤ ms) (hq : Q (some (.long v)) M) : Go X d mc ms k Q pc L [.long v] M c z :=
  fun p e s m args below meth cd A H locs ls hF hA hB hW hS hl => W.widen hcc hzz (W.lret hF.1 hF.2.1 (hF.2.2.1.trans hr) (fun t ht hWm => ⟨⟨_, _, rfl, hq, by rw [ht]; exact hW⟩, hS.F ht⟩) hS.2.2 hd hF.2.2.2.2.2.2.1)
theorem g_vret (hd : decode (kB k) pc = .ok (.return_, 1)) (hr : kR k = none) (hcc : c ≤ mc) (hzz : z ≤ ms) (hq : Q none M) : Go X d mc ms k Q pc L [] M c z :=
  fun p e s m args below meth cd A H locs ls hF hA hB hW hS hl => W.widen hcc hzz (W.vret hF.1 hF.2.1 (hF.2.2.1.trans hr) (fun t ht hWm => ⟨⟨_, _, rfl, hq, by rw [ht]; exact hW⟩, hS.F ht⟩) hS.2.2 hd hF.2.2.2.2.2.2.1)
theorem g_aret {v : Value} {C : String} (hd : decode (kB k) pc = .ok (.areturn, 1)) (hr : kR k = some (.object C)) (hv : v = .null ∨ ∃ a, v = .ref a) (hcc : c ≤ mc) (hzz : z ≤ ms) (hq : Q (some v) M) : Go X d mc ms k Q pc L [v] M c z :=
  fun p e s m args below meth cd A H locs ls hF hA hB hW hS hl => W.widen hcc hzz (W.aret hF.1 hF.2.1 (hF.2.2.1.trans hr) (Or.inl ⟨_, rfl⟩) hv (fun t ht hWm => ⟨⟨_, _, rfl, hq, by rw [ht]; exact hW⟩, hS.F ht⟩) hS.2.2 hd hF.2.2.2.2.2.2.1)
theorem g_objInit {a ix : Nat} (pc' : Nat) (hd : decode (kB k) pc = .ok (.invokespecial ix, 3)) (hp : pc + 3 = pc') (hm : Cond.methodLink (kO k) ix objectInit ∈ gtbl) (hi : Cond.instanceMethod objectInit ∈ gtbl) (ho : Cond.code objectInit ⟨#[0xb1]⟩ 1 none ∈ gtbl) (hs : (st.map fun v => v.category).sum ≤ 8) (h : Go X (d + 1) mc ms k Q pc' L st M c z) : Go X (d + 1) mc ms k Q pc L (.ref a :: st) M c z := by
  subst hp
  intro p e s m args below meth cd A H locs ls hF hA hB hW hS hl
  refine W.objInit hF.1 hF.2.1 hF.2.2.2.2.1 (hF.2.2.2.2.2.1 _ hm) (hF.2.2.2.2.2.1 _ hi) (hF.2.2.2.2.2.1 _ ho) rfl (by rw [hF.2.2.2.1]; exact hl.1) rfl hd (show 1 ≤ d + 1 by omega) (by show 2 * 0 + _ + 12 ≤ 64 * (d + 1); omega) ?_
  exact h p e s m args below meth cd A H locs ls hF hA hB hW hS hl
end GO3
