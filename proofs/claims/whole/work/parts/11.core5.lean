/-! The light machine: System.arraycopy of ints, stores of null. -/
section GO5
variable {X : gX} {d mc ms : Nat} {k : gK} {Q : Option Value → gM → Prop} {pc : Nat} {L : List (Nat × Value)} {st : List Value} {M : gM} {c z : Nat}
theorem g_nn (x : Int32) (hz : ¬ x < 0) : x.toInt = (x.toNatClampNeg : Int) := by
  have hz0 : (0 : Int) ≤ x.toInt := by
    have := Int32.not_lt.mp hz
    simpa using Int32.le_iff_toInt_le.mp this
  show x.toInt = ((x.toInt.toNat : Nat) : Int)
  omega
theorem g_cp_ent {aC : Nat → ClassId} {M : gM} {a b sp dp n : Nat} (q : Nat) (h : q ≠ b) : g_ent aC (g_cp M a b sp dp n) q = g_ent aC M q := g_ent_ne rfl rfl (by rw [g_mi_cp]; simp [va_up, h]) rfl
theorem g_copy {ix a b na nb : Nat} {sp dp n : Int32} (pc' : Nat) (hd : decode (kB k) pc = .ok (.invokestatic ix, 3)) (hp : pc + 3 = pc') (hm : Cond.methodLink (kO k) ix arraycopyName ∈ gtbl) (hnat : Cond.native arraycopyName ∈ gtbl) (hst : Cond.static arraycopyName ∈ gtbl) (hini : Cond.initialized "java/lang/System" ∈ gtbl) (hka : g_kd M a = some (100, na)) (hkb : g_kd M b = some (100, nb))
    (h1 : ¬ sp < 0) (h2 : ¬ dp < 0) (h3 : ¬ n < 0) (h4 : sp.toNatClampNeg + n.toNatClampNeg ≤ na) (h5 : dp.toNatClampNeg + n.toNatClampNeg ≤ nb) (hs : (st.map fun v => v.category).sum ≤ 8) (h : Go X (d + 1) mc ms k Q pc' L st (g_cp M a b sp.toNatClampNeg dp.toNatClampNeg n.toNatClampNeg) c z) : Go X (d + 1) mc ms k Q pc L (.int n :: .int dp :: .ref b :: .int sp :: .ref a :: st) M c z := by
  subst hp
  intro p e s m args below meth cd A H locs ls hF hA hB hW hS hl
  have hts := hF.2.2.2.2.2.1
  have hK := hF.2.2.2.2.2.2.2.2.1
  obtain ⟨-, -, hc0⟩ := hW.2 a (by rw [hka]; simp)
  obtain ⟨w1, w2, hc1⟩ := hW.2 b (by rw [hkb]; simp)
  rw [g_ent_i (t := 0) hka (by omega)] at hc0
  rw [g_ent_i (t := 0) hkb (by omega)] at hc1
  have hc0 : H[a]? = some (vp_cell (gC X 0) (na, .inl (g_mi M a))) := hc0
  have hc1 : H[b]? = some (vp_cell (gC X 0) (nb, .inl (g_mi M b))) := hc1
  intro T hT Xs
  obtain ⟨-, k0, hk0, cm0, hkk0⟩ := (hK.2 0 _ rfl).1 na (fun j => .int (g_mi M a j))
  obtain ⟨-, k1, hk1, cm1, hkk1⟩ := (hK.2 0 _ rfl).1 nb (fun j => .int (g_mi M b j))
  obtain ⟨vm', X', step⟩ := Xs.arraycopy hF.1 hF.2.2.2.2.1 (hts _ hm) (hts _ hnat) (hts _ hst) (hts _ hini) (src := a) (dst := b) (cs := vp_cell (gC X 0) (na, .inl (g_mi M a))) (cd := vp_cell (gC X 0) (nb, .inl (g_mi M b))) (srcPos := sp) (destPos := dp) (n := n) (by rw [hT]; exact hc0) (by rw [hT]; exact hc1)
    (fun _ h => by cases h) (fun _ h => by cases h) (fun h => by cases h) (fun h => by cases h) hk0 hk1 hkk0 hkk1 (by simp [refKind]) h1 h2 h3
    (by rw [g_nn sp h1, g_nn n h3]; show ¬ _ > ((arrV _ na (fun j => .int (g_mi M a j))).slots.size : Int); rw [arrV_size]; omega)
    (by rw [g_nn dp h2, g_nn n h3]; show ¬ _ > ((arrV _ nb (fun j => .int (g_mi M b j))).slots.size : Int); rw [arrV_size]; omega)
    (fun vm₁ _ i hi => by
      have e : (vp_cell (gC X 0) (na, .inl (g_mi M a))).slots.getD (sp.toNatClampNeg + i) .null = .int (g_mi M a (sp.toNatClampNeg + i)) := by
        show (arrV (gC X 0) na (fun j => .int (g_mi M a j))).slots.getD _ _ = _
        rw [Array.getD_eq_getD_getElem?, arrV_read _ _ (by omega)]
        rfl
      refine ⟨?_, ?_⟩
      · rw [e]
        rfl
      · rw [e]
        exact trivial)
    (g := F0 m pc ls (.int n :: .int dp :: .ref b :: .int sp :: .ref a :: st)) rfl (by rw [hF.2.2.2.1]; exact hl.1) (rest := st) rfl (by rw [hF.2.1]; exact hd) (show 1 ≤ d + 1 by omega) (by
      show 2 * 0 + _ + (nativeFrameWords "java/lang/System" "arraycopy" 5 + 11) ≤ 64 * (d + 1)
      have : nativeFrameWords "java/lang/System" "arraycopy" 5 ≤ 40 := by decide
      omega)
  have e1 : copied (vp_cell (gC X 0) (na, .inl (g_mi M a))) (vp_cell (gC X 0) (nb, .inl (g_mi M b))) sp dp n = vp_cell (gC X 0) (nb, .inl (va_cpy (g_mi M a) (g_mi M b) sp.toNatClampNeg dp.toNatClampNeg n.toNatClampNeg)) := va_copied (fun z => .int z) (gC X 0) (gC X 0) (g_mi M a) (g_mi M b) h4
  rw [e1] at X' step
  have hlb : b < H.size := (Array.getElem?_eq_some_iff.mp hc1).1
  generalize hcell : vp_cell (gC X 0) (nb, .inl (va_cpy (g_mi M a) (g_mi M b) sp.toNatClampNeg dp.toNatClampNeg n.toNatClampNeg)) = cell at X' step
  have hheap : ((T.setVm vm').setCell b cell).heap = H.setIfInBounds b cell := by rw [← hT]; rfl
  have z1 : (H.setIfInBounds b cell).size = H.size := by simp
  have oq : ∀ q : Nat, q ≠ b → (H.setIfInBounds b cell)[q]? = H[q]? := fun q hq => by simp [Array.getElem?_setIfInBounds, Ne.symm hq]
  obtain ⟨t, a1, b1⟩ := h p e s m args below meth cd A (H.setIfInBounds b cell) _ ls hF hA hB (hW.put rfl rfl g_cp_ent z1 oq fun _ => by
      rw [g_ent_i (t := 0) (M := g_cp M a b sp.toNatClampNeg dp.toNatClampNeg n.toNatClampNeg) hkb (by omega), g_mi_cp]
      show (H.setIfInBounds b cell)[b]? = some (vp_cell _ _)
      rw [show va_up (g_mi M) b (va_cpy (g_mi M a) (g_mi M b) sp.toNatClampNeg dp.toNatClampNeg n.toNatClampNeg) b = va_cpy (g_mi M a) (g_mi M b) sp.toNatClampNeg dp.toNatClampNeg n.toNatClampNeg by simp [va_up], hcell]
      simp [Array.getElem?_setIfInBounds, hlb]) ⟨by simp; exact hS.1, fun q g1 g2 => by
      rw [oq q (fun e => g2 (by rw [e]; exact w2))]
      exact hS.2.1 q g1 g2, fun q hq => by
      rcases List.mem_append.mp hq with h | h
      · exact hS.2.2 q h
      · obtain ⟨z, -, hz⟩ := List.mem_map.mp h
        rw [← hz]
        exact w2⟩ hl _ hheap X'
  exact ⟨t, step t a1, b1⟩
theorem g_aastoreN {a n t : Nat} {C : String} {i : Int32} (pc' : Nat) (hd : decode (kB k) pc = .ok (.aastore, 1)) (hp : pc + 1 = pc') (hk : g_kd M a = some (100 + t, n)) (ht : 4 ≤ t) (hty : (g_atys (gC X))[t]? = some (gC X t, .object C)) (hin : vp_in i n) (h : Go X d mc ms k Q pc' L st (g_wr M a i.toNatClampNeg none) c z) : Go X d mc ms k Q pc L (.null :: .int i :: .ref a :: st) M c z := by
  subst hp
  intro p e s m args below meth cd A H locs ls hF hA hB hW hS hl
  obtain ⟨w1, w2, hat⟩ := hW.2 a (by rw [hk]; simp)
  rw [g_ent_q hk ht] at hat
  have hK := hF.2.2.2.2.2.2.2.2.1
  refine va_WaastN (C := C) hF.1 hF.2.1 hat ((hK.2 t _ hty).1 n (fun j => va_rf (g_mr M a j))) (fun h => by cases h) (by show ¬ (i < 0 ∨ (arrV _ _ _).slots.size ≤ _); rw [arrV_size]; exact hin) rfl rfl hd fun H1 e1 e2 e3 => ?_
  refine h p e s m args below meth cd A H1 _ ls hF hA hB (hW.put rfl rfl g_wr_ent e2 e3 fun _ => ?_) (hS.put e2 e3 w2) hl
  rw [g_ent_q (M := g_wr M a i.toNatClampNeg none) hk ht]
  show H1[a]? = some (vp_cell _ _)
  rw [e1, vp_cell_q, vp_cell_q, arrV_store, g_wr_row]
  rfl
/-- a reference that may be null is stored into a row of its kind -/
theorem g_aastoreq {a n t ci N : Nat} {C : String} {T : u_T} {i : Int32} {r : Option Nat} (pc' : Nat) (hd : decode (kB k) pc = .ok (.aastore, 1)) (hp : pc + 1 = pc') (hk : g_kd M a = some (100 + t, n)) (ht : 4 ≤ t) (hty : (g_atys (gC X))[t]? = some (gC X t, .object C)) (hr : ∀ v, r = some v → g_kd M v = some (ci, N)) (hc : vwCl[ci]? = some (C, T, N)) (hin : vp_in i n) (h : Go X d mc ms k Q pc' L st (g_wr M a i.toNatClampNeg r) c z) : Go X d mc ms k Q pc L (va_rf r :: .int i :: .ref a :: st) M c z := by
  cases r with
  | none => exact g_aastoreN pc' hd hp hk ht hty hin h
  | some v => exact g_aastore pc' hd hp hk ht hty (hr v rfl) hc hin h
end GO5
