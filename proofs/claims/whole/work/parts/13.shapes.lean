/-! Rules with a named index; remainders; the shapes of the class's and the reference's objects. -/
def i_rm (x y : Int32) : Int32 := x - x / y * y
def l_rm (x y : Int64) : Int64 := x - x / y * y
theorem i_neT {x v : Int32} (h : ¬ x = v) : x.toInt ≠ v.toInt := fun e => h (Int32.toInt_inj.mp e)
theorem vp_lit {i : Int32} {n : Nat} (h : (decide (i < 0) || decide (n ≤ i.toNatClampNeg)) = false) : vp_in i n := by
  simp only [Bool.or_eq_false_iff, decide_eq_false_iff_not] at h
  exact fun q => q.elim h.1 h.2
theorem vp_lt {i : Int32} {n : Nat} (h : vp_in i n) : i.toNatClampNeg < n := Nat.not_le.mp fun q => h (Or.inr q)
theorem va_rf_cat (r : Option Nat) : (va_rf r).category = 1 := by cases r <;> rfl
/-- how many turns of a method's loops are looked at: more than any run has -/
def g_fuel : Nat := 20000
def i_max (x y : Int32) : Int32 := if x < y then y else x
def i_min (x y : Int32) : Int32 := if y < x then y else x
/-- other ints and longs, the rest as it was -/
def g_wm (M : gM) (f : Nat → Nat → Int32) (g : Nat → Nat → Int64) : gM := (M.1, M.2.1, f, g, M.2.2.2.2)
section GO6
variable {X : gX} {d mc ms : Nat} {k : gK} {Q : Option Value → gM → Prop} {pc : Nat} {L : List (Nat × Value)} {st : List Value} {M : gM} {c z : Nat}
theorem h_irem {x y : Int32} (pc' : Nat) (hd : decode (kB k) pc = .ok (.irem, 1)) (hp : pc + 1 = pc') (hne : ¬ y = 0) (h : Go X d mc ms k Q pc' L (.int (i_rm x y) :: st) M c z) : Go X d mc ms k Q pc L (.int y :: .int x :: st) M c z := g_irem pc' hd hp hne h
theorem h_lrem {x y : Int64} (pc' : Nat) (hd : decode (kB k) pc = .ok (.lrem, 1)) (hp : pc + 1 = pc') (hne : ¬ y = 0) (h : Go X d mc ms k Q pc' L (.long (l_rm x y) :: st) M c z) : Go X d mc ms k Q pc L (.long y :: .long x :: st) M c z := g_lrem pc' hd hp hne h
theorem h_iaload {a n : Nat} {i : Int32} (pc' j : Nat) (hd : decode (kB k) pc = .ok (.iaload, 1)) (hp : pc + 1 = pc') (hj : i.toNatClampNeg = j) (hk : g_kd M a = some (100, n)) (hin : vp_in i n) (h : Go X d mc ms k Q pc' L (.int (g_mi M a j) :: st) M c z) : Go X d mc ms k Q pc L (.int i :: .ref a :: st) M c z := by
  subst hj; exact g_iaload pc' hd hp hk hin h
theorem h_baload {a n : Nat} {i : Int32} (pc' j : Nat) (hd : decode (kB k) pc = .ok (.baload, 1)) (hp : pc + 1 = pc') (hj : i.toNatClampNeg = j) (hk : g_kd M a = some (101, n)) (hin : vp_in i n) (h : Go X d mc ms k Q pc' L (.int (g_mi M a j) :: st) M c z) : Go X d mc ms k Q pc L (.int i :: .ref a :: st) M c z := by
  subst hj; exact g_baload pc' hd hp hk hin h
theorem h_zaload {a n : Nat} {i : Int32} (pc' j : Nat) (hd : decode (kB k) pc = .ok (.baload, 1)) (hp : pc + 1 = pc') (hj : i.toNatClampNeg = j) (hk : g_kd M a = some (102, n)) (hin : vp_in i n) (h : Go X d mc ms k Q pc' L (.int (g_mi M a j) :: st) M c z) : Go X d mc ms k Q pc L (.int i :: .ref a :: st) M c z := by
  subst hj; exact g_zaload pc' hd hp hk hin h
theorem h_laload {a n : Nat} {i : Int32} (pc' j : Nat) (hd : decode (kB k) pc = .ok (.laload, 1)) (hp : pc + 1 = pc') (hj : i.toNatClampNeg = j) (hk : g_kd M a = some (103, n)) (hin : vp_in i n) (h : Go X d mc ms k Q pc' L (.long (g_ml M a j) :: st) M c z) : Go X d mc ms k Q pc L (.int i :: .ref a :: st) M c z := by
  subst hj; exact g_laload pc' hd hp hk hin h
theorem h_iastore {a n : Nat} {i x : Int32} (pc' j : Nat) (hd : decode (kB k) pc = .ok (.iastore, 1)) (hp : pc + 1 = pc') (hj : i.toNatClampNeg = j) (hk : g_kd M a = some (100, n)) (hin : vp_in i n) (h : Go X d mc ms k Q pc' L st (g_wi M a j x) c z) : Go X d mc ms k Q pc L (.int x :: .int i :: .ref a :: st) M c z := by
  subst hj; exact g_iastore pc' hd hp hk hin h
theorem h_bastore {a n : Nat} {i x : Int32} (pc' j : Nat) (hd : decode (kB k) pc = .ok (.bastore, 1)) (hp : pc + 1 = pc') (hj : i.toNatClampNeg = j) (hk : g_kd M a = some (101, n)) (hin : vp_in i n) (hx : narrow .byte (.int x) = .int x) (h : Go X d mc ms k Q pc' L st (g_wi M a j x) c z) : Go X d mc ms k Q pc L (.int x :: .int i :: .ref a :: st) M c z := by
  subst hj; exact g_bastore pc' hd hp hk hin hx h
theorem h_zastore {a n : Nat} {i x : Int32} (pc' j : Nat) (hd : decode (kB k) pc = .ok (.bastore, 1)) (hp : pc + 1 = pc') (hj : i.toNatClampNeg = j) (hk : g_kd M a = some (102, n)) (hin : vp_in i n) (hx : x = 0 ∨ x = 1) (h : Go X d mc ms k Q pc' L st (g_wi M a j x) c z) : Go X d mc ms k Q pc L (.int x :: .int i :: .ref a :: st) M c z := by
  subst hj; exact g_zastore pc' hd hp hk hin hx h
theorem h_lastore {a n : Nat} {i : Int32} {x : Int64} (pc' j : Nat) (hd : decode (kB k) pc = .ok (.lastore, 1)) (hp : pc + 1 = pc') (hj : i.toNatClampNeg = j) (hk : g_kd M a = some (103, n)) (hin : vp_in i n) (h : Go X d mc ms k Q pc' L st (g_wl M a j x) c z) : Go X d mc ms k Q pc L (.long x :: .int i :: .ref a :: st) M c z := by
  subst hj; exact g_lastore pc' hd hp hk hin h
theorem h_aaload {a n t : Nat} {C : String} {i : Int32} (pc' j : Nat) (hd : decode (kB k) pc = .ok (.aaload, 1)) (hp : pc + 1 = pc') (hj : i.toNatClampNeg = j) (hk : g_kd M a = some (100 + t, n)) (ht : 4 ≤ t) (hty : (g_atys (gC X))[t]? = some (gC X t, .object C)) (hin : vp_in i n) (h : Go X d mc ms k Q pc' L (va_rf (g_mr M a j) :: st) M c z) : Go X d mc ms k Q pc L (.int i :: .ref a :: st) M c z := by
  subst hj; exact g_aaload pc' hd hp hk ht hty hin h
theorem h_aaloadR {a n t b : Nat} {C : String} {i : Int32} (pc' j : Nat) (hd : decode (kB k) pc = .ok (.aaload, 1)) (hp : pc + 1 = pc') (hj : i.toNatClampNeg = j) (hk : g_kd M a = some (100 + t, n)) (ht : 4 ≤ t) (hty : (g_atys (gC X))[t]? = some (gC X t, .object C)) (hin : vp_in i n) (hb : g_mr M a j = some b) (h : Go X d mc ms k Q pc' L (.ref b :: st) M c z) : Go X d mc ms k Q pc L (.int i :: .ref a :: st) M c z := by
  refine h_aaload pc' j hd hp hj hk ht hty hin ?_
  rw [hb]; exact h
/-- a table switch, by the cases -/
theorem h_tabIn {dflt lo hi : Int} {offs : Array Int} {len : Nat} {x : Int32} {off : Int} (v : Int32) (tgt : Nat) (hd : decode (kB k) pc = .ok (.tableswitch dflt lo hi offs, len)) (hx : x = v) (h1 : ¬ v.toInt < lo) (h2 : ¬ hi < v.toInt) (ho : offs[(v.toInt - lo).toNat]? = some off) (ht : (pc : Int) + off = (tgt : Int)) (h : Go X d mc ms k Q tgt L st M c z) : Go X d mc ms k Q pc L (.int x :: st) M c z := by
  subst hx; exact g_tableIn tgt hd h1 h2 ho ht h
theorem g_aload_nq {q : Fin 4} {r : Option Nat} (j : Nat) (pc' : Nat) (hd : decode (kB k) pc = .ok (.aload_n q, 1)) (hp : pc + 1 = pc') (hj : L[j]? = some ((q : Nat), va_rf r)) (h : Go X d mc ms k Q pc' L (va_rf r :: st) M c z) : Go X d mc ms k Q pc L st M c z := by
  cases r with
  | none => exact g_aload_nN j pc' hd hp hj h
  | some a => exact g_aload_n j pc' hd hp hj h
theorem g_aloadq {q : Nat} {r : Option Nat} (j : Nat) (pc' : Nat) (hd : decode (kB k) pc = .ok (.aload q, 2)) (hp : pc + 2 = pc') (hj : L[j]? = some (q, va_rf r)) (h : Go X d mc ms k Q pc' L (va_rf r :: st) M c z) : Go X d mc ms k Q pc L st M c z := by
  cases r with
  | none => exact g_aloadN j pc' hd hp hj h
  | some a => exact g_aload j pc' hd hp hj h
theorem g_astore_nq {q : Fin 4} {r : Option Nat} (pc' : Nat) (L' : List (Nat × Value)) (hd : decode (kB k) pc = .ok (.astore_n q, 1)) (hp : pc + 1 = pc') (hn : (q : Nat) < kN k) (hL : ((q : Nat), va_rf r) :: L.filter (fun u => !(u.1 == (q : Nat)) && !(u.1 + 1 == (q : Nat) && u.2.category == 2)) = L') (h : Go X d mc ms k Q pc' L' st M c z) : Go X d mc ms k Q pc L (va_rf r :: st) M c z := by
  cases r with
  | none => exact g_astore_nN pc' L' hd hp hn hL h
  | some a => exact g_astore_n pc' L' hd hp hn hL h
theorem g_astoreq {q : Nat} {r : Option Nat} (pc' : Nat) (L' : List (Nat × Value)) (hd : decode (kB k) pc = .ok (.astore q, 2)) (hp : pc + 2 = pc') (hn : q < kN k) (hL : (q, va_rf r) :: L.filter (fun u => !(u.1 == q) && !(u.1 + 1 == q && u.2.category == 2)) = L') (h : Go X d mc ms k Q pc' L' st M c z) : Go X d mc ms k Q pc L (va_rf r :: st) M c z := by
  cases r with
  | none => exact g_astoreN pc' L' hd hp hn hL h
  | some a => exact g_astore pc' L' hd hp hn hL h
theorem g_ifnonnullq {r : Option Nat} {off : Int} (tgt pc' : Nat) (hd : decode (kB k) pc = .ok (.ifnonnull off, 3)) (ht : (pc : Int) + off = (tgt : Int)) (hp : pc + 3 = pc') (h1 : r = none → Go X d mc ms k Q pc' L st M c z) (h2 : r ≠ none → Go X d mc ms k Q tgt L st M c z) : Go X d mc ms k Q pc L (va_rf r :: st) M c z := by
  cases r with
  | none => exact g_ifnonnullN pc' hd hp (h1 rfl)
  | some a => exact g_ifnonnull tgt hd ht (h2 (by simp))
theorem g_ifnullq {r : Option Nat} {off : Int} (tgt pc' : Nat) (hd : decode (kB k) pc = .ok (.ifnull off, 3)) (ht : (pc : Int) + off = (tgt : Int)) (hp : pc + 3 = pc') (h1 : r = none → Go X d mc ms k Q tgt L st M c z) (h2 : r ≠ none → Go X d mc ms k Q pc' L st M c z) : Go X d mc ms k Q pc L (va_rf r :: st) M c z := by
  cases r with
  | none => exact g_ifnullN tgt hd ht (h1 rfl)
  | some a => exact g_ifnull pc' hd hp (h2 (by simp))
theorem h_lookIn {dflt : Int} {ps : Array (Int × Int)} {len : Nat} {x : Int32} {off : Int} (v : Int32) (tgt : Nat) (hd : decode (kB k) pc = .ok (.lookupswitch dflt ps, len)) (hp : (ps.toList.zip (ps.toList.drop 1)).all (fun (a, next) => a.1 < next.1) = true) (hx : x = v) (ho : Op.lookupswitch.offset ps.toList dflt v.toInt = off) (ht : (pc : Int) + off = (tgt : Int)) (h : Go X d mc ms k Q tgt L st M c z) : Go X d mc ms k Q pc L (.int x :: st) M c z := by
  subst hx; exact g_lookup tgt hd hp ho ht h
theorem h_max {ix : Nat} {x y : Int32} (pc' : Nat) (hd : decode (kB k) pc = .ok (.invokestatic ix, 3)) (hp : pc + 3 = pc') (hb : g_MB (kO k) ix kJ9_max_7cf53 2 false) (hs : Cond.static (kY kJ9_max_7cf53) ∈ gtbl) (hw : (st.map fun v => v.category).sum ≤ 8) (hc : c ≤ mc) (hz : z ≤ ms) (h : Go X (d + 1) mc ms k Q pc' L (.int (i_max x y) :: st) M c z) : Go X (d + 1) mc ms k Q pc L (.int y :: .int x :: st) M c z := by
  subst hp
  obtain ⟨b1, b2, b3, b4, b5⟩ := hb
  have b3 : Cond.methodLink (kO k) ix (kY kJ9_max_7cf53) ∈ gtbl := by simpa using b3
  intro p e s m args below meth cd A H locs ls hF hA hB hW hS hl
  have hts := hF.2.2.2.2.2.1
  exact va_mmax hF.1 hF.2.1 (by rw [hF.2.2.2.1, hl.1]) hF.2.2.2.2.1 (hts _ b3) (hts _ hs) (hts _ b2) (hts _ b1) (show 1 ≤ d + 1 by omega) (by show _ + 13 ≤ 64 * (d + 1); omega) hc hz hd (h p e s m args below meth cd A H locs ls hF hA hB hW hS hl)
theorem h_min {ix : Nat} {x y : Int32} (pc' : Nat) (hd : decode (kB k) pc = .ok (.invokestatic ix, 3)) (hp : pc + 3 = pc') (hb : g_MB (kO k) ix kJ9_min_7cf53 2 false) (hs : Cond.static (kY kJ9_min_7cf53) ∈ gtbl) (hw : (st.map fun v => v.category).sum ≤ 8) (hc : c ≤ mc) (hz : z ≤ ms) (h : Go X (d + 1) mc ms k Q pc' L (.int (i_min x y) :: st) M c z) : Go X (d + 1) mc ms k Q pc L (.int y :: .int x :: st) M c z := by
  subst hp
  obtain ⟨b1, b2, b3, b4, b5⟩ := hb
  have b3 : Cond.methodLink (kO k) ix (kY kJ9_min_7cf53) ∈ gtbl := by simpa using b3
  intro p e s m args below meth cd A H locs ls hF hA hB hW hS hl
  have hts := hF.2.2.2.2.2.1
  exact va_mmin hF.1 hF.2.1 (by rw [hF.2.2.2.1, hl.1]) hF.2.2.2.2.1 (hts _ b3) (hts _ hs) (hts _ b2) (hts _ b1) (show 1 ≤ d + 1 by omega) (by show _ + 13 ≤ 64 * (d + 1); omega) hc hz hd (h p e s m args below meth cd A H locs ls hF hA hB hW hS hl)
/-- the vocabulary's String -/
theorem g_ldcS (pc' : Nat) (hd : decode (kB k) pc = .ok (.ldc 89, 2)) (hp : pc + 2 = pc') (ho : kO k = RX2) (h : Go X d mc ms k Q pc' L (.ref (X.2.2.2.2.1 0) :: st) M c z) : Go X d mc ms k Q pc L st M c z := by
  subst hp
  intro p e s m args below meth cd A H locs ls hF hA hB hW hS hl
  exact va_ldcS hF.1 hF.2.1 (by rw [← ho]; exact hF.2.2.2.2.1) hF.2.2.2.2.2.2.2.2.2.1 hd (h p e s m args below meth cd A H locs ls hF hA hB hW hS hl)
end GO6
/-! shapes: what kinds the cells are, where the references lead (they never change but for laws) -/
def Tb (M : gM) (a : Nat) : Prop := g_kd M a = some (5, 7) ∧ g_mr M a 0 = some (a + 1) ∧ g_kd M (a + 1) = some (100, 30) ∧ g_mr M a 1 = some (a + 2) ∧ g_kd M (a + 2) = some (100, 60) ∧ g_mr M a 2 = some (a + 3) ∧ g_kd M (a + 3) = some (100, 60)
def St (M : gM) (a : Nat) : Prop := g_kd M a = some (3, 6) ∧ g_mr M a 0 = some (a + 1) ∧ g_kd M (a + 1) = some (100, 30) ∧ g_mr M a 1 = some (a + 2) ∧ g_kd M (a + 2) = some (100, 3) ∧ g_mr M a 2 = some (a + 3) ∧ Tb M (a + 3)
def Su (M : gM) (a : Nat) : Prop := g_kd M a = some (4, 2) ∧ g_mr M a 0 = some (a + 1) ∧ g_kd M (a + 1) = some (100, 60) ∧ g_mr M a 1 = some (a + 2) ∧ g_kd M (a + 2) = some (100, 51)
def Pe (M : gM) (a : Nat) : Prop := g_kd M a = some (1, 9) ∧ g_mr M a 0 = some (a + 1) ∧ g_kd M (a + 1) = some (100, 90) ∧ g_mr M a 1 = some (a + 2) ∧ g_kd M (a + 2) = some (100, 30) ∧ g_mr M a 2 = some (a + 3) ∧ g_kd M (a + 3) = some (100, 30) ∧ g_mr M a 3 = some (a + 4) ∧ g_kd M (a + 4) = some (100, 60) ∧ g_mr M a 4 = some (a + 5) ∧ g_kd M (a + 5) = some (100, 60) ∧ g_mr M a 5 = some (a + 6) ∧ g_kd M (a + 6) = some (100, 60) ∧ g_mr M a 6 = some (a + 7) ∧ g_kd M (a + 7) = some (100, 63) ∧ 3 ≤ a ∧ g_mr M a 7 = some (a - 3) ∧ Su M (a - 3)
/-- a text of n clauses, m steps at most -/
def Tx (M : gM) (a n m : Nat) : Prop := g_kd M a = some (6, 8) ∧ g_mr M a 0 = some (a + 1) ∧ g_kd M (a + 1) = some (100, n) ∧ g_mr M a 1 = some (a + 2) ∧ g_kd M (a + 2) = some (100, n) ∧ g_mr M a 2 = some (a + 3) ∧ g_kd M (a + 3) = some (100, n) ∧ g_mr M a 3 = some (a + 4) ∧ g_kd M (a + 4) = some (100, n) ∧ g_mr M a 4 = some (a + 5) ∧ g_kd M (a + 5) = some (100, m) ∧ g_mr M a 5 = some (a + 6) ∧ g_kd M (a + 6) = some (100, m)
def Re (M : gM) (a : Nat) : Prop := g_kd M a = some (2, 13) ∧ g_mr M a 0 = some (a + 1) ∧ g_kd M (a + 1) = some (100, 400) ∧ g_mr M a 1 = some (a + 2) ∧ Tx M (a + 2) 12 460 ∧ g_mr M a 2 = some (a + 9) ∧ g_kd M (a + 9) = some (100, 50) ∧ g_mr M a 3 = some (a + 10) ∧ g_kd M (a + 10) = some (102, 50) ∧ g_mr M a 7 = some (a + 11) ∧ g_kd M (a + 11) = some (100, 401) ∧ g_mr M a 8 = some (a + 12) ∧ g_kd M (a + 12) = some (100, 401) ∧ g_mr M a 9 = some (a + 13) ∧ g_kd M (a + 13) = some (100, 401)
def Wh (M : gM) (a : Nat) : Prop := g_kd M a = some (7, 8) ∧ g_mr M a 0 = some (a + 1) ∧ St M (a + 1) ∧ g_mr M a 1 = some (a + 8) ∧ g_kd M (a + 8) = some (100, 6) ∧ g_mr M a 2 = some (a + 9) ∧ g_kd M (a + 9) = some (100, 6) ∧ g_mr M a 3 = some (a + 10) ∧ g_kd M (a + 10) = some (105, 6)
def Hi (M : gM) (a : Nat) : Prop := g_kd M a = some (0, 4) ∧ g_mr M a 0 = some (a + 1) ∧ g_kd M (a + 1) = some (104, 17) ∧ g_mr M a 1 = some (a + 2) ∧ g_kd M (a + 2) = some (100, 17) ∧ ∀ i, i < 17 → g_mr M (a + 1) i = some (a + 3 + 7 * i) ∧ St M (a + 3 + 7 * i)
def Ph (M : gM) (a : Nat) : Prop := g_kd M a = some (8, 17) ∧ g_mr M a 0 = some (a + 1) ∧ Wh M (a + 1) ∧ g_mr M a 1 = some (a + 12) ∧ g_kd M (a + 12) = some (106, 2) ∧ g_mr M a 2 = some (a + 13) ∧ Hi M (a + 13) ∧ g_mr M a 3 = some (a + 135) ∧ Hi M (a + 135) ∧ g_mr M a 4 = some (a + 257) ∧ St M (a + 257) ∧ g_mr M a 5 = some (a + 264) ∧ St M (a + 264) ∧ g_mr M a 6 = some (a + 271) ∧ Su M (a + 271) ∧ g_mr M a 7 = some (a + 274) ∧ Pe M (a + 274) ∧ g_mr M a 8 = some (a + 282) ∧ Re M (a + 282) ∧ g_mr M a 9 = some (a + 296) ∧ Tx M (a + 296) 0 0 ∧ g_mr M a 10 = some (a + 303) ∧ g_kd M (a + 303) = some (100, 40) ∧ g_mr M a 11 = some (a + 304) ∧ g_kd M (a + 304) = some (100, 5) ∧ g_mr M a 12 = some (a + 305) ∧ g_kd M (a + 305) = some (100, 30) ∧ g_mr M a 13 = some (a + 306) ∧ g_kd M (a + 306) = some (103, 20) ∧ g_mr M (a + 12) 0 = some (a + 307) ∧ Wh M (a + 307) ∧ g_mr M (a + 12) 1 = some (a + 318) ∧ Wh M (a + 318)
def Mo (M : gM) (a : Nat) : Prop := g_kd M a = some (9, 50) ∧ g_mr M a 1 = some (a + 1) ∧ g_kd M (a + 1) = some (100, 7) ∧ g_mr M a 2 = some (a + 2) ∧ g_kd M (a + 2) = some (100, 5812) ∧ g_mr M a 3 = some (a + 3) ∧ g_kd M (a + 3) = some (100, 11624) ∧ g_mr M a 4 = some (a + 4) ∧ g_kd M (a + 4) = some (102, 2) ∧ g_mr M a 5 = some (a + 5) ∧ g_kd M (a + 5) = some (100, 564) ∧ g_mr M a 7 = some (a + 6) ∧ g_kd M (a + 6) = some (101, 113) ∧ g_mr M a 11 = some (a + 7) ∧ g_kd M (a + 7) = some (101, 400) ∧ g_mr M a 12 = some (a + 8) ∧ g_kd M (a + 8) = some (100, 5) ∧ g_mr M a 15 = some (a + 9) ∧ g_kd M (a + 9) = some (100, 401) ∧ g_mr M a 16 = some (a + 10) ∧ g_kd M (a + 10) = some (100, 401) ∧ g_mr M a 17 = some (a + 11) ∧ g_kd M (a + 11) = some (100, 401) ∧ g_mr M a 26 = some (a + 12) ∧ g_kd M (a + 12) = some (100, 7) ∧ g_mr M a 29 = some (a + 13) ∧ g_kd M (a + 13) = some (100, 30) ∧ g_mr M a 30 = some (a + 14) ∧ g_kd M (a + 14) = some (100, 30) ∧ g_mr M a 31 = some (a + 15) ∧ g_kd M (a + 15) = some (100, 60) ∧ g_mr M a 32 = some (a + 16) ∧ g_kd M (a + 16) = some (100, 90) ∧ g_mr M a 33 = some (a + 17) ∧ g_kd M (a + 17) = some (100, 60) ∧ g_mr M a 34 = some (a + 18) ∧ g_kd M (a + 18) = some (100, 60) ∧ g_mr M a 36 = some (a + 19) ∧ g_kd M (a + 19) = some (100, 3024) ∧ g_mr M a 37 = some (a + 20) ∧ g_kd M (a + 20) = some (100, 3024) ∧ g_mr M a 39 = some (a + 21) ∧ g_kd M (a + 21) = some (103, 21) ∧ g_mr M a 46 = some (a + 22) ∧ g_kd M (a + 22) = some (103, 1) ∧ g_mr M a 47 = some (a + 23) ∧ g_kd M (a + 23) = some (100, 40)
/-! a memory with the same kinds, references, next address (Sl), and longs (Sm) -/
def Sl (M M2 : gM) : Prop := g_kd M2 = g_kd M ∧ g_mr M2 = g_mr M ∧ g_nx M2 = g_nx M
def Sm (M M2 : gM) : Prop := g_kd M2 = g_kd M ∧ g_mr M2 = g_mr M ∧ g_nx M2 = g_nx M ∧ g_ml M2 = g_ml M
theorem Sm.rf {M : gM} : Sm M M := ⟨rfl, rfl, rfl, rfl⟩
theorem Sl.rf {M : gM} : Sl M M := ⟨rfl, rfl, rfl⟩
theorem Sm.l {M M2 : gM} (h : Sm M M2) : Sl M M2 := ⟨h.1, h.2.1, h.2.2.1⟩
theorem Sm.wi {M M2 : gM} {a i : Nat} {v : Int32} (h : Sm M M2) : Sm M (g_wi M2 a i v) := h
theorem Sl.wi {M M2 : gM} {a i : Nat} {v : Int32} (h : Sl M M2) : Sl M (g_wi M2 a i v) := h
theorem Sl.wl {M M2 : gM} {a i : Nat} {v : Int64} (h : Sl M M2) : Sl M (g_wl M2 a i v) := h
theorem Sm.cp {M M2 : gM} {a b sp dp n : Nat} (h : Sm M M2) : Sm M (g_cp M2 a b sp dp n) := h
theorem Sl.cp {M M2 : gM} {a b sp dp n : Nat} (h : Sl M M2) : Sl M (g_cp M2 a b sp dp n) := h
theorem Sm.wm {M : gM} {f : Nat → Nat → Int32} : Sm M (g_wm M f (g_ml M)) := ⟨rfl, rfl, rfl, rfl⟩
theorem Sl.wm {M : gM} {f : Nat → Nat → Int32} {g : Nat → Nat → Int64} : Sl M (g_wm M f g) := ⟨rfl, rfl, rfl⟩
theorem Sm.tr {M M1 M2 : gM} (h : Sm M M1) (h2 : Sm M1 M2) : Sm M M2 := ⟨h2.1.trans h.1, h2.2.1.trans h.2.1, h2.2.2.1.trans h.2.2.1, h2.2.2.2.trans h.2.2.2⟩
theorem Sl.tr {M M1 M2 : gM} (h : Sl M M1) (h2 : Sl M1 M2) : Sl M M2 := ⟨h2.1.trans h.1, h2.2.1.trans h.2.1, h2.2.2.trans h.2.2⟩
theorem Sl.k {M M2 : gM} {a : Nat} {v : Option (Nat × Nat)} (h : Sl M M2) (e : g_kd M a = v) : g_kd M2 a = v := by rw [h.1]; exact e
theorem Sl.r {M M2 : gM} {a i : Nat} {v : Option Nat} (h : Sl M M2) (e : g_mr M a i = v) : g_mr M2 a i = v := by rw [h.2.1]; exact e
theorem Sm.k {M M2 : gM} {a : Nat} {v : Option (Nat × Nat)} (h : Sm M M2) (e : g_kd M a = v) : g_kd M2 a = v := h.l.k e
theorem Sm.r {M M2 : gM} {a i : Nat} {v : Option Nat} (h : Sm M M2) (e : g_mr M a i = v) : g_mr M2 a i = v := h.l.r e
theorem Sl.eq {M M2 : gM} (h : Sl M M2) : g_wm M (g_mi M2) (g_ml M2) = M2 := by
  obtain ⟨h1, h2, h3⟩ := h
  show (g_kd M, g_mr M, g_mi M2, g_ml M2, g_nx M) = M2
  rw [← h1, ← h2, ← h3]
  rfl
theorem Sm.eq {M M2 : gM} (h : Sm M M2) : g_wm M (g_mi M2) (g_ml M) = M2 := by
  rw [← h.2.2.2]
  exact h.l.eq
theorem Sl.q {M M2 : gM} {Q : Option Value → gM → Prop} {v : Option Value} (h : Sl M M2) (hq : Q v (g_wm M (g_mi M2) (g_ml M2))) : Q v M2 := h.eq ▸ hq
theorem Sm.q {M M2 : gM} {Q : Option Value → gM → Prop} {v : Option Value} (h : Sm M M2) (hq : Q v (g_wm M (g_mi M2) (g_ml M))) : Q v M2 := h.eq ▸ hq
theorem Sl.g {M M2 : gM} {X : gX} {d mc ms : Nat} {k : gK} {Q : Option Value → gM → Prop} {pc : Nat} {L : List (Nat × Value)} {st : List Value} {c z : Nat} (h : Sl M M2) (hq : Go X d mc ms k Q pc L st (g_wm M (g_mi M2) (g_ml M2)) c z) : Go X d mc ms k Q pc L st M2 c z := h.eq ▸ hq
theorem Sm.g {M M2 : gM} {X : gX} {d mc ms : Nat} {k : gK} {Q : Option Value → gM → Prop} {pc : Nat} {L : List (Nat × Value)} {st : List Value} {c z : Nat} (h : Sm M M2) (hq : Go X d mc ms k Q pc L st (g_wm M (g_mi M2) (g_ml M)) c z) : Go X d mc ms k Q pc L st M2 c z := h.eq ▸ hq
theorem Tb.sl {M M2 : gM} {a : Nat} (h : Sl M M2) (e : Tb M a) : Tb M2 a := by
  unfold Tb at e ⊢
  rw [h.1, h.2.1]
  exact e
theorem Tb.sm {M M2 : gM} {a : Nat} (h : Sm M M2) (e : Tb M a) : Tb M2 a := Tb.sl h.l e
theorem St.sl {M M2 : gM} {a : Nat} (h : Sl M M2) (e : St M a) : St M2 a := by
  unfold St Tb at e ⊢
  rw [h.1, h.2.1]
  exact e
theorem St.sm {M M2 : gM} {a : Nat} (h : Sm M M2) (e : St M a) : St M2 a := St.sl h.l e
theorem Su.sl {M M2 : gM} {a : Nat} (h : Sl M M2) (e : Su M a) : Su M2 a := by
  unfold Su at e ⊢
  rw [h.1, h.2.1]
  exact e
theorem Su.sm {M M2 : gM} {a : Nat} (h : Sm M M2) (e : Su M a) : Su M2 a := Su.sl h.l e
theorem Pe.sl {M M2 : gM} {a : Nat} (h : Sl M M2) (e : Pe M a) : Pe M2 a := by
  unfold Pe Su at e ⊢
  rw [h.1, h.2.1]
  exact e
theorem Pe.sm {M M2 : gM} {a : Nat} (h : Sm M M2) (e : Pe M a) : Pe M2 a := Pe.sl h.l e
theorem Tx.sl {M M2 : gM} {a : Nat} {n m : Nat} (h : Sl M M2) (e : Tx M a n m) : Tx M2 a n m := by
  unfold Tx at e ⊢
  rw [h.1, h.2.1]
  exact e
theorem Tx.sm {M M2 : gM} {a : Nat} {n m : Nat} (h : Sm M M2) (e : Tx M a n m) : Tx M2 a n m := Tx.sl h.l e
theorem Re.sl {M M2 : gM} {a : Nat} (h : Sl M M2) (e : Re M a) : Re M2 a := by
  unfold Re Tx at e ⊢
  rw [h.1, h.2.1]
  exact e
theorem Re.sm {M M2 : gM} {a : Nat} (h : Sm M M2) (e : Re M a) : Re M2 a := Re.sl h.l e
theorem Wh.sl {M M2 : gM} {a : Nat} (h : Sl M M2) (e : Wh M a) : Wh M2 a := by
  unfold Wh St Tb at e ⊢
  rw [h.1, h.2.1]
  exact e
theorem Wh.sm {M M2 : gM} {a : Nat} (h : Sm M M2) (e : Wh M a) : Wh M2 a := Wh.sl h.l e
theorem Hi.sl {M M2 : gM} {a : Nat} (h : Sl M M2) (e : Hi M a) : Hi M2 a := by
  unfold Hi St Tb at e ⊢
  rw [h.1, h.2.1]
  exact e
theorem Hi.sm {M M2 : gM} {a : Nat} (h : Sm M M2) (e : Hi M a) : Hi M2 a := Hi.sl h.l e
theorem Ph.sl {M M2 : gM} {a : Nat} (h : Sl M M2) (e : Ph M a) : Ph M2 a := ⟨h.k e.1, h.r e.2.1, Wh.sl h e.2.2.1, h.r e.2.2.2.1, h.k e.2.2.2.2.1, h.r e.2.2.2.2.2.1, Hi.sl h e.2.2.2.2.2.2.1, h.r e.2.2.2.2.2.2.2.1, Hi.sl h e.2.2.2.2.2.2.2.2.1, h.r e.2.2.2.2.2.2.2.2.2.1, St.sl h e.2.2.2.2.2.2.2.2.2.2.1, h.r e.2.2.2.2.2.2.2.2.2.2.2.1, St.sl h e.2.2.2.2.2.2.2.2.2.2.2.2.1, h.r e.2.2.2.2.2.2.2.2.2.2.2.2.2.1, Su.sl h e.2.2.2.2.2.2.2.2.2.2.2.2.2.2.1, h.r e.2.2.2.2.2.2.2.2.2.2.2.2.2.2.2.1, Pe.sl h e.2.2.2.2.2.2.2.2.2.2.2.2.2.2.2.2.1, h.r e.2.2.2.2.2.2.2.2.2.2.2.2.2.2.2.2.2.1, Re.sl h e.2.2.2.2.2.2.2.2.2.2.2.2.2.2.2.2.2.2.1, h.r e.2.2.2.2.2.2.2.2.2.2.2.2.2.2.2.2.2.2.2.1, Tx.sl h e.2.2.2.2.2.2.2.2.2.2.2.2.2.2.2.2.2.2.2.2.1, h.r e.2.2.2.2.2.2.2.2.2.2.2.2.2.2.2.2.2.2.2.2.2.1, h.k e.2.2.2.2.2.2.2.2.2.2.2.2.2.2.2.2.2.2.2.2.2.2.1, h.r e.2.2.2.2.2.2.2.2.2.2.2.2.2.2.2.2.2.2.2.2.2.2.2.1, h.k e.2.2.2.2.2.2.2.2.2.2.2.2.2.2.2.2.2.2.2.2.2.2.2.2.1, h.r e.2.2.2.2.2.2.2.2.2.2.2.2.2.2.2.2.2.2.2.2.2.2.2.2.2.1, h.k e.2.2.2.2.2.2.2.2.2.2.2.2.2.2.2.2.2.2.2.2.2.2.2.2.2.2.1, h.r e.2.2.2.2.2.2.2.2.2.2.2.2.2.2.2.2.2.2.2.2.2.2.2.2.2.2.2.1, h.k e.2.2.2.2.2.2.2.2.2.2.2.2.2.2.2.2.2.2.2.2.2.2.2.2.2.2.2.2.1, h.r e.2.2.2.2.2.2.2.2.2.2.2.2.2.2.2.2.2.2.2.2.2.2.2.2.2.2.2.2.2.1, Wh.sl h e.2.2.2.2.2.2.2.2.2.2.2.2.2.2.2.2.2.2.2.2.2.2.2.2.2.2.2.2.2.2.1, h.r e.2.2.2.2.2.2.2.2.2.2.2.2.2.2.2.2.2.2.2.2.2.2.2.2.2.2.2.2.2.2.2.1, Wh.sl h e.2.2.2.2.2.2.2.2.2.2.2.2.2.2.2.2.2.2.2.2.2.2.2.2.2.2.2.2.2.2.2.2⟩
theorem Ph.sm {M M2 : gM} {a : Nat} (h : Sm M M2) (e : Ph M a) : Ph M2 a := Ph.sl h.l e
theorem Mo.sl {M M2 : gM} {a : Nat} (h : Sl M M2) (e : Mo M a) : Mo M2 a := by
  unfold Mo at e ⊢
  rw [h.1, h.2.1]
  exact e
theorem Mo.sm {M M2 : gM} {a : Nat} (h : Sm M M2) (e : Mo M a) : Mo M2 a := Mo.sl h.l e
