/-! Blocks of cells: what constructors make. -/
/-- nothing below a has changed -/
def Fr (a : Nat) (M M2 : gM) : Prop := ∀ b, b < a → g_kd M2 b = g_kd M b ∧ g_mr M2 b = g_mr M b ∧ g_mi M2 b = g_mi M b ∧ g_ml M2 b = g_ml M b
/-- the cells lo .. hi - 1 are as they were -/
def Bl (lo hi : Nat) (M M2 : gM) : Prop := ∀ b, lo ≤ b → b < hi → g_kd M2 b = g_kd M b ∧ g_mr M2 b = g_mr M b ∧ g_mi M2 b = g_mi M b ∧ g_ml M2 b = g_ml M b
theorem Fr.rf {a : Nat} {M : gM} : Fr a M M := fun _ _ => ⟨rfl, rfl, rfl, rfl⟩
theorem Fr.tr {a c : Nat} {M M1 M2 : gM} (h : Fr a M M1) (h2 : Fr c M1 M2) (hc : a ≤ c) : Fr a M M2 := fun b hb => by
  obtain ⟨x1, x2, x3, x4⟩ := h b hb
  obtain ⟨y1, y2, y3, y4⟩ := h2 b (by omega)
  exact ⟨y1.trans x1, y2.trans x2, y3.trans x3, y4.trans x4⟩
theorem Fr.new {a n c z : Nat} {M M1 : gM} (h : Fr a M M1) (hn : g_nx M1 = n) (ha : a ≤ n) : Fr a M (g_new M1 c z) := fun b hb => by
  have e : b ≠ g_nx M1 := by omega
  obtain ⟨x1, x2, x3, x4⟩ := h b hb
  refine ⟨?_, ?_, ?_, ?_⟩
  · rw [g_kd_new]; simp only [va_up, if_neg e]; exact x1
  · rw [g_mr_new]; simp only [va_up, if_neg e]; exact x2
  · rw [g_mi_new]; simp only [va_up, if_neg e]; exact x3
  · rw [g_ml_new]; simp only [va_up, if_neg e]; exact x4
theorem Fr.wr {a c i : Nat} {v : Option Nat} {M M1 : gM} (h : Fr a M M1) (hc : a ≤ c) : Fr a M (g_wr M1 c i v) := fun b hb => by
  obtain ⟨x1, x2, x3, x4⟩ := h b hb
  exact ⟨x1, by rw [g_mr_wr, g_u2_ne _ _ _ (by omega)]; exact x2, x3, x4⟩
theorem Fr.wi {a c i : Nat} {v : Int32} {M M1 : gM} (h : Fr a M M1) (hc : a ≤ c) : Fr a M (g_wi M1 c i v) := fun b hb => by
  obtain ⟨x1, x2, x3, x4⟩ := h b hb
  exact ⟨x1, x2, by rw [g_mi_wi, g_u2_ne _ _ _ (by omega)]; exact x3, x4⟩
theorem Bl.new {lo hi n c z : Nat} {M : gM} (hn : g_nx M = n) (ha : hi ≤ n) : Bl lo hi M (g_new M c z) := fun b hb1 hb2 => by
  have e : b ≠ g_nx M := by omega
  refine ⟨?_, ?_, ?_, ?_⟩
  · rw [g_kd_new]; simp only [va_up, if_neg e]
  · rw [g_mr_new]; simp only [va_up, if_neg e]
  · rw [g_mi_new]; simp only [va_up, if_neg e]
  · rw [g_ml_new]; simp only [va_up, if_neg e]
theorem Bl.wr {lo hi c i : Nat} {v : Option Nat} {M : gM} (hc : c < lo ∨ hi ≤ c) : Bl lo hi M (g_wr M c i v) := fun b hb1 hb2 => ⟨rfl, by rw [g_mr_wr, g_u2_ne _ _ _ (by omega)], rfl, rfl⟩
theorem Bl.wi {lo hi c i : Nat} {v : Int32} {M : gM} (hc : c < lo ∨ hi ≤ c) : Bl lo hi M (g_wi M c i v) := fun b hb1 hb2 => ⟨rfl, rfl, by rw [g_mi_wi, g_u2_ne _ _ _ (by omega)], rfl⟩
theorem Bl.fr {lo hi c : Nat} {M M2 : gM} (h : Fr c M M2) (hc : hi ≤ c) : Bl lo hi M M2 := fun b _ hb2 => h b (by omega)
theorem Bl.sub {lo hi lo2 hi2 : Nat} {M M2 : gM} (h : Bl lo hi M M2) (h1 : lo ≤ lo2) (h2 : hi2 ≤ hi) : Bl lo2 hi2 M M2 := fun b hb1 hb2 => h b (by omega) (by omega)
theorem Bl.k {lo hi b : Nat} {M M2 : gM} {v : Option (Nat × Nat)} (h : Bl lo hi M M2) (h1 : lo ≤ b) (h2 : b < hi) (e : g_kd M b = v) : g_kd M2 b = v := (h b h1 h2).1.trans e
theorem Bl.r {lo hi b i : Nat} {M M2 : gM} {v : Option Nat} (h : Bl lo hi M M2) (h1 : lo ≤ b) (h2 : b < hi) (e : g_mr M b i = v) : g_mr M2 b i = v := by rw [(h b h1 h2).2.1]; exact e
theorem kn {M : gM} {a n c z : Nat} {v : Option (Nat × Nat)} (h : g_kd M a = v) (hn : g_nx M = n) (ha : a ≠ n) : g_kd (g_new M c z) a = v := by
  have e : a ≠ g_nx M := by omega
  rw [g_kd_new]; simp only [va_up, if_neg e]; exact h
theorem ks {M : gM} {n c z : Nat} (hn : g_nx M = n) : g_kd (g_new M c z) n = some (c, z) := by
  rw [g_kd_new, hn]; simp only [va_up, if_true]
theorem nn {M : gM} {n c z : Nat} (hn : g_nx M = n) : g_nx (g_new M c z) = n + 1 := by rw [g_nx_new, hn]
/-- a cell of a kind that holds nothing yet -/
def Ar (M : gM) (b t n : Nat) : Prop := g_kd M b = some (t, n) ∧ (∀ j, g_mi M b j = 0) ∧ (∀ j, g_ml M b j = 0) ∧ ∀ j, g_mr M b j = none
theorem Ar.mk {M : gM} {n c z : Nat} (hn : g_nx M = n) : Ar (g_new M c z) n c z := by
  refine ⟨ks hn, fun j => ?_, fun j => ?_, fun j => ?_⟩
  · rw [g_mi_new, hn]; simp only [va_up, if_true]
  · rw [g_ml_new, hn]; simp only [va_up, if_true]
  · rw [g_mr_new, hn]; simp only [va_up, if_true]
theorem Ar.bl {M M2 : gM} {b t n : Nat} (h : Bl b (b + 1) M M2) (e : Ar M b t n) : Ar M2 b t n := by
  obtain ⟨x1, x2, x3, x4⟩ := h b (Nat.le_refl _) (by omega)
  exact ⟨x1.trans e.1, fun j => by rw [x3]; exact e.2.1 j, fun j => by rw [x4]; exact e.2.2.1 j, fun j => by rw [x2]; exact e.2.2.2 j⟩
section GI
variable {X : gX} {d mc ms : Nat} {k : gK} {Q : Option Value → gM → Prop} {pc : Nat} {L : List (Nat × Value)} {st : List Value} {M : gM} {c z : Nat}
theorem i_newa {at_ : ArrayType} {t n : Nat} {x : Int32} (pc' b : Nat) (hd : decode (kB k) pc = .ok (.newarray at_, 2)) (hp : pc + 2 = pc') (hat : newarray.typeOf at_ = g_aty t) (ht : t < 4) (hm : Cond.arrayClass (g_aty t) ∈ gtbl) (hx : ¬ x < 0) (hn : x.toNatClampNeg = n) (hnn : n ≤ 1000000) (hcc : c + 1 ≤ mc) (hzz : z + n ≤ ms) (hb : g_nx M = b) (h : Go X d mc ms k Q pc' L (.ref b :: st) (g_new M (100 + t) n) (c + 1) (z + n)) : Go X d mc ms k Q pc L (.int x :: st) M c z := by
  subst hb; exact g_newa pc' hd hp hat ht hm hx hn hnn hcc hzz h
theorem i_newq {ix t n : Nat} {C : String} {x : Int32} (pc' b : Nat) (hd : decode (kB k) pc = .ok (.anewarray ix, 3)) (hp : pc + 3 = pc') (ht : 4 ≤ t) (hty : (g_atys (gC X))[t]? = some (gC X t, .object C)) (hm : Cond.classLink (kO k) ix C ∈ gtbl) (ho : C ∈ [RX3, RX6, RX7]) (hx : ¬ x < 0) (hn : x.toNatClampNeg = n) (hnn : n ≤ 1000000) (hcc : c + 1 ≤ mc) (hzz : z + n ≤ ms) (hb : g_nx M = b) (h : Go X d mc ms k Q pc' L (.ref b :: st) (g_new M (100 + t) n) (c + 1) (z + n)) : Go X d mc ms k Q pc L (.int x :: st) M c z := by
  subst hb; exact g_newq pc' hd hp ht hty hm ho hx hn hnn hcc hzz h
theorem i_newo {ix ci N : Nat} {C : String} {T : u_T} {ty : Nat → FieldType} (pc' b : Nat) (hd : decode (kB k) pc = .ok (.new ix, 3)) (hp : pc + 3 = pc') (hc : g_Cl ci C T N ty) (hm : Cond.classLink (kO k) ix C ∈ gtbl) (hi : Cond.instantiable C N ∈ gtbl) (hini : Cond.initialized C ∈ gtbl) (hcc : c + 1 ≤ mc) (hzz : z + N ≤ ms) (hb : g_nx M = b) (h : Go X d mc ms k Q pc' L (.ref b :: st) (g_new M ci N) (c + 1) (z + N)) : Go X d mc ms k Q pc L st M c z := by
  subst hb; exact g_newo pc' hd hp hc hm hi hini hcc hzz h
end GI
/-- the own fields of the object a: references, ints -/
def Ow (M : gM) (a : Nat) (fr : Nat → Option Nat) (fi : Nat → Int32) : Prop := (∀ j, g_mr M a j = fr j) ∧ ∀ j, g_mi M a j = fi j
theorem Ow.bl {M M2 : gM} {a : Nat} {fr : Nat → Option Nat} {fi : Nat → Int32} (h : Bl a (a + 1) M M2) (e : Ow M a fr fi) : Ow M2 a fr fi := by
  obtain ⟨x1, x2, x3, x4⟩ := h a (Nat.le_refl _) (by omega)
  exact ⟨fun j => by rw [x2]; exact e.1 j, fun j => by rw [x3]; exact e.2 j⟩
theorem Ow.wr {M : gM} {a i : Nat} {v : Option Nat} {fr : Nat → Option Nat} {fi : Nat → Int32} (e : Ow M a fr fi) : Ow (g_wr M a i v) a (va_up fr i v) fi := by
  refine ⟨fun j => ?_, e.2⟩
  rw [g_mr_wr, g_u2_same]
  simp only [va_up]
  split
  · rfl
  · exact e.1 j
theorem Ow.wi {M : gM} {a i : Nat} {v : Int32} {fr : Nat → Option Nat} {fi : Nat → Int32} (e : Ow M a fr fi) : Ow (g_wi M a i v) a fr (va_up fi i v) := by
  refine ⟨e.1, fun j => ?_⟩
  rw [g_mi_wi, g_u2_same]
  simp only [va_up]
  split
  · rfl
  · exact e.2 j
theorem Ow.ar {M : gM} {a t n : Nat} (e : Ar M a t n) : Ow M a (fun _ => none) (fun _ => 0) := ⟨e.2.2.2, e.2.1⟩
theorem nwr {M : gM} {n c i : Nat} {v : Option Nat} (h : g_nx M = n) : g_nx (g_wr M c i v) = n := h
theorem nwi {M : gM} {n c i : Nat} {v : Int32} (h : g_nx M = n) : g_nx (g_wi M c i v) = n := h
theorem kwr {M : gM} {b c i : Nat} {v : Option Nat} {w : Option (Nat × Nat)} (h : g_kd M b = w) : g_kd (g_wr M c i v) b = w := h
theorem kwi {M : gM} {b c i : Nat} {v : Int32} {w : Option (Nat × Nat)} (h : g_kd M b = w) : g_kd (g_wi M c i v) b = w := h
