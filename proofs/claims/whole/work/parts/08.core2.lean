/-! The light machine's rules for memory, calls and ends. -/
theorem g_kd_wi (M : gM) (a i : Nat) (v : Int32) : g_kd (g_wi M a i v) = g_kd M := rfl
theorem g_mr_wi (M : gM) (a i : Nat) (v : Int32) : g_mr (g_wi M a i v) = g_mr M := rfl
theorem g_ml_wi (M : gM) (a i : Nat) (v : Int32) : g_ml (g_wi M a i v) = g_ml M := rfl
theorem g_nx_wi (M : gM) (a i : Nat) (v : Int32) : g_nx (g_wi M a i v) = g_nx M := rfl
theorem g_mi_wi (M : gM) (a i : Nat) (v : Int32) : g_mi (g_wi M a i v) = g_u2 (g_mi M) a i v := rfl
theorem g_kd_wl (M : gM) (a i : Nat) (v : Int64) : g_kd (g_wl M a i v) = g_kd M := rfl
theorem g_mr_wl (M : gM) (a i : Nat) (v : Int64) : g_mr (g_wl M a i v) = g_mr M := rfl
theorem g_mi_wl (M : gM) (a i : Nat) (v : Int64) : g_mi (g_wl M a i v) = g_mi M := rfl
theorem g_nx_wl (M : gM) (a i : Nat) (v : Int64) : g_nx (g_wl M a i v) = g_nx M := rfl
theorem g_ml_wl (M : gM) (a i : Nat) (v : Int64) : g_ml (g_wl M a i v) = g_u2 (g_ml M) a i v := rfl
theorem g_kd_wr (M : gM) (a i : Nat) (v : Option Nat) : g_kd (g_wr M a i v) = g_kd M := rfl
theorem g_mi_wr (M : gM) (a i : Nat) (v : Option Nat) : g_mi (g_wr M a i v) = g_mi M := rfl
theorem g_ml_wr (M : gM) (a i : Nat) (v : Option Nat) : g_ml (g_wr M a i v) = g_ml M := rfl
theorem g_nx_wr (M : gM) (a i : Nat) (v : Option Nat) : g_nx (g_wr M a i v) = g_nx M := rfl
theorem g_mr_wr (M : gM) (a i : Nat) (v : Option Nat) : g_mr (g_wr M a i v) = g_u2 (g_mr M) a i v := rfl
theorem g_kd_cp (M : gM) (a b sp dp n : Nat) : g_kd (g_cp M a b sp dp n) = g_kd M := rfl
theorem g_mr_cp (M : gM) (a b sp dp n : Nat) : g_mr (g_cp M a b sp dp n) = g_mr M := rfl
theorem g_ml_cp (M : gM) (a b sp dp n : Nat) : g_ml (g_cp M a b sp dp n) = g_ml M := rfl
theorem g_nx_cp (M : gM) (a b sp dp n : Nat) : g_nx (g_cp M a b sp dp n) = g_nx M := rfl
theorem g_mi_cp (M : gM) (a b sp dp n : Nat) : g_mi (g_cp M a b sp dp n) = va_up (g_mi M) b (va_cpy (g_mi M a) (g_mi M b) sp dp n) := rfl
theorem g_kd_new (M : gM) (c n : Nat) : g_kd (g_new M c n) = va_up (g_kd M) (g_nx M) (some (c, n)) := rfl
theorem g_mr_new (M : gM) (c n : Nat) : g_mr (g_new M c n) = va_up (g_mr M) (g_nx M) (fun _ => none) := rfl
theorem g_mi_new (M : gM) (c n : Nat) : g_mi (g_new M c n) = va_up (g_mi M) (g_nx M) (fun _ => 0) := rfl
theorem g_ml_new (M : gM) (c n : Nat) : g_ml (g_new M c n) = va_up (g_ml M) (g_nx M) (fun _ => 0) := rfl
theorem g_nx_new (M : gM) (c n : Nat) : g_nx (g_new M c n) = g_nx M + 1 := rfl
theorem g_u2_same {α : Type} (f : Nat → Nat → α) (a i : Nat) (v : α) : g_u2 f a i v a = fun j => if j = i then v else f a j := by
  funext j
  simp [g_u2]
theorem g_u2_ne {α : Type} (f : Nat → Nat → α) {a b : Nat} (i : Nat) (v : α) (h : b ≠ a) : g_u2 f a i v b = f b := by
  funext j
  simp [g_u2, h]
/-- entries -/
theorem g_ent_obj {aC : Nat → ClassId} {M : gM} {a ci N : Nat} (hk : g_kd M a = some (ci, N)) (hc : ci < 100) : g_ent aC M a = .inr (ci, (List.range N).map (g_fv M a ci)) := by
  simp [g_ent, hk, hc]
theorem g_ent_i {aC : Nat → ClassId} {M : gM} {a n t : Nat} (hk : g_kd M a = some (100 + t, n)) (ht : t < 3) : g_ent aC M a = .inl (aC t, n, .inl (g_mi M a)) := by
  have h1 : ¬ 100 + t < 100 := by omega
  have h2 : 100 + t < 103 := by omega
  simp only [g_ent, hk, h1, h2, if_false, if_true, Nat.add_sub_cancel_left]
theorem g_ent_l {aC : Nat → ClassId} {M : gM} {a n : Nat} (hk : g_kd M a = some (103, n)) : g_ent aC M a = .inl (aC 3, n, .inr (.inl (g_ml M a))) := by
  simp [g_ent, hk]
theorem g_ent_q {aC : Nat → ClassId} {M : gM} {a n t : Nat} (hk : g_kd M a = some (100 + t, n)) (ht : 4 ≤ t) : g_ent aC M a = .inl (aC t, n, .inr (.inr (.inr (.inr (g_mr M a))))) := by
  have h1 : ¬ 100 + t < 100 := by omega
  have h2 : ¬ 100 + t < 103 := by omega
  have h3 : ¬ 100 + t = 103 := by omega
  simp only [g_ent, hk, h1, h2, h3, if_false, Nat.add_sub_cancel_left]
theorem g_ent_ne {aC : Nat → ClassId} {M M' : gM} {b : Nat} (h1 : g_kd M' b = g_kd M b) (h2 : g_mr M' b = g_mr M b) (h3 : g_mi M' b = g_mi M b) (h4 : g_ml M' b = g_ml M b) : g_ent aC M' b = g_ent aC M b := by
  have hf : ∀ c k, g_fv M' b c k = g_fv M b c k := fun c k => by simp only [g_fv, h2, h3]
  have hf2 : ∀ c, g_fv M' b c = g_fv M b c := fun c => funext (hf c)
  simp only [g_ent, h1, h2, h3, h4, hf2]
/-- one cell is written -/
theorem g_Wd.put {X : gX} {A : Nat → Prop} {M M' : gM} {H H1 : Heap} {a : Nat} (h : g_Wd X A M H) (hk : g_kd M' = g_kd M) (hn : g_nx M' = g_nx M) (ho : ∀ b, b ≠ a → g_ent (gC X) M' b = g_ent (gC X) M b) (z : H1.size = H.size) (oq : ∀ q, q ≠ a → H1[q]? = H[q]?) (hat : g_kd M a ≠ none → va_at (gD X) vwCl (a, g_ent (gC X) M' a) H1) : g_Wd X A M' H1 := by
  refine ⟨by rw [z, hn]; exact h.1, fun b hb => ?_⟩
  rw [hk] at hb
  obtain ⟨h1, h2, h3⟩ := h.2 b hb
  refine ⟨h1, h2, ?_⟩
  by_cases e : b = a
  · subst e
    exact hat hb
  · rw [ho b e]
    exact h3.kept (oq b e)
/-- one cell comes -/
theorem g_Wd.push {X : gX} {A : Nat → Prop} {M M' : gM} {H H1 : Heap} {c n : Nat} (h : g_Wd X A M H) (hM : M' = g_new M c n) (z : H1.size = H.size + 1) (oq : ∀ q, q < H.size → H1[q]? = H[q]?) (hA : A H.size) (hB : gB X ≤ H.size) (hat : va_at (gD X) vwCl (H.size, g_ent (gC X) M' H.size) H1) : g_Wd X A M' H1 := by
  subst hM
  refine ⟨by rw [z, g_nx_new, h.1], fun b hb => ?_⟩
  by_cases e : b = H.size
  · subst e
    exact ⟨hB, hA, hat⟩
  · have e2 : b ≠ g_nx M := by rw [← h.1]; exact e
    have hb2 : g_kd M b ≠ none := by
      rw [g_kd_new] at hb
      simpa [va_up, e2] using hb
    obtain ⟨h1, h2, h3⟩ := h.2 b hb2
    have hE : g_ent (gC X) (g_new M c n) b = g_ent (gC X) M b := g_ent_ne (by rw [g_kd_new]; simp [va_up, e2]) (by rw [g_mr_new]; simp [va_up, e2]) (by rw [g_mi_new]; simp [va_up, e2]) (by rw [g_ml_new]; simp [va_up, e2])
    exact ⟨h1, h2, by rw [hE]; exact h3.kept (oq b h3.lt)⟩
/-- static facts of a class, of a field's link -/
def g_Cl (ci : Nat) (C : String) (T : u_T) (N : Nat) (ty : Nat → FieldType) : Prop := vwCl[ci]? = some (C, T, N) ∧ (∀ w ∈ u_ws C T N, w ∈ gtbl) ∧ (∀ k, k < N → parseFieldDescriptor (T k).2.2.1 = some (ty k)) ∧ (∀ a, a < N → ∀ b, b < N → a ≠ b → (T a).2.1 ≠ (T b).2.1) ∧ ∀ k, k < N → (g_isR ci k = true → defaultValue (ty k) = .null) ∧ (g_isR ci k = false → defaultValue (ty k) = .int 0)
def g_FL (own : String) (ix ci fi N : Nat) (isR fin : Bool) (ft : FieldType) (dc : Bool) : Prop := ∃ (C : String) (T : u_T) (ty : Nat → FieldType), g_Cl ci C T N ty ∧ Cond.fieldLink own ix (T fi).1 (T fi).2.1 (T fi).2.2.1 ∈ gtbl ∧ fi < N ∧ g_isR ci fi = isR ∧ (T fi).2.2.2 = fin ∧ ty fi = ft ∧ (dc = true → (T fi).1 = own)
theorem g_lt10 {ci : Nat} {C : String} {T : u_T} {N : Nat} (h : vwCl[ci]? = some (C, T, N)) : ci < 100 := by
  have := (List.getElem?_eq_some_iff.mp h).1
  have h2 : vwCl.length = 10 := rfl
  omega
theorem g_fs_at {M : gM} {a ci N fi : Nat} (h : fi < N) : ((List.range N).map (g_fv M a ci))[fi]? = some (g_fv M a ci fi) := by
  rw [List.getElem?_map, List.getElem?_range h]
  rfl
theorem g_fs_set {M M' : gM} {a ci N fi : Nat} {v : Value} (hv : g_fv M' a ci fi = v) (ho : ∀ j, j ≠ fi → g_fv M' a ci j = g_fv M a ci j) : ((List.range N).map (g_fv M a ci)).set fi v = (List.range N).map (g_fv M' a ci) := by
  apply List.ext_getElem?
  intro j
  by_cases hj : j < N
  · by_cases e : j = fi
    · subst e
      rw [List.getElem?_set_self (by simpa using hj), List.getElem?_map, List.getElem?_range hj]
      simp [hv]
    · rw [List.getElem?_set_ne (Ne.symm e), List.getElem?_map, List.getElem?_map, List.getElem?_range hj]
      simp [ho j e]
  · rw [List.getElem?_eq_none (by simp; omega), List.getElem?_eq_none (by simp; omega)]
section GO2
variable {X : gX} {d mc ms : Nat} {k : gK} {Q : Option Value → gM → Prop} {pc : Nat} {L : List (Nat × Value)} {st : List Value} {M : gM} {c z : Nat}
theorem g_getV {ix ci fi N a : Nat} {isR fin dc : Bool} {ft : FieldType} (pc' : Nat) (hd : decode (kB k) pc = .ok (.getfield ix, 3)) (hp : pc + 3 = pc') (hf : g_FL (kO k) ix ci fi N isR fin ft dc) (hk : g_kd M a = some (ci, N)) (h : Go X d mc ms k Q pc' L (g_fv M a ci fi :: st) M c z) : Go X d mc ms k Q pc L (.ref a :: st) M c z := by
  subst hp
  obtain ⟨C, T, ty, ⟨c1, c2, c3, c4, c5⟩, f1, f2, f3, f4, f5, f6⟩ := hf
  intro p e s m args below meth cd A H locs ls hF hA hB hW hS hl
  have hat := (hW.2 a (by rw [hk]; simp)).2.2
  rw [g_ent_obj hk (g_lt10 c1)] at hat
  exact va_get (ws := [(a, .inr (ci, (List.range N).map (g_fv M a ci)))]) hF.1 hF.2.1 hF.2.2.2.2.2.1 c2 hF.2.2.2.2.1 hF.2.2.2.2.2.2.2.2.1 (fun j q hj => by
    have : j = 0 := by have := (List.getElem?_eq_some_iff.mp hj).1; simp at this; omega
    subst this
    cases hj
    exact hat) 0 rfl c1 fi f2 (hF.2.2.2.2.2.1 _ f1) (fun _ h9 => h9) (g_fs_at f2) hd (h p e s m args below meth cd A H locs ls hF hA hB hW hS hl)
theorem g_getI {ix ci fi N a : Nat} {fin dc : Bool} {ft : FieldType} (pc' : Nat) (hd : decode (kB k) pc = .ok (.getfield ix, 3)) (hp : pc + 3 = pc') (hf : g_FL (kO k) ix ci fi N false fin ft dc) (hk : g_kd M a = some (ci, N)) (h : Go X d mc ms k Q pc' L (.int (g_mi M a fi) :: st) M c z) : Go X d mc ms k Q pc L (.ref a :: st) M c z := by
  refine g_getV pc' hd hp hf hk ?_
  obtain ⟨C, T, ty, hc, f1, f2, f3, f4, f5, f6⟩ := hf
  have : g_fv M a ci fi = .int (g_mi M a fi) := by simp [g_fv, f3]
  rw [this]
  exact h
theorem g_getR {ix ci fi N a : Nat} {fin dc : Bool} {ft : FieldType} (pc' : Nat) (b : Nat) (hd : decode (kB k) pc = .ok (.getfield ix, 3)) (hp : pc + 3 = pc') (hf : g_FL (kO k) ix ci fi N true fin ft dc) (hk : g_kd M a = some (ci, N)) (hb : g_mr M a fi = some b) (h : Go X d mc ms k Q pc' L (.ref b :: st) M c z) : Go X d mc ms k Q pc L (.ref a :: st) M c z := by
  refine g_getV pc' hd hp hf hk ?_
  obtain ⟨C, T, ty, hc, f1, f2, f3, f4, f5, f6⟩ := hf
  have : g_fv M a ci fi = .ref b := by simp [g_fv, f3, hb, va_rf]
  rw [this]
  exact h
/-- a field is written: v, by which the memory becomes M' -/
theorem g_putV {ix ci fi N a : Nat} {isR dc : Bool} {ft : FieldType} {v : Value} {M' : gM} (pc' : Nat) (hd : decode (kB k) pc = .ok (.putfield ix, 3)) (hp : pc + 3 = pc') (hf : g_FL (kO k) ix ci fi N isR false ft dc) (hk : g_kd M a = some (ci, N)) (hn : narrow ft v = v) (hfit : fits ft v = true)
    (m1 : g_kd M' = g_kd M) (m2 : g_nx M' = g_nx M) (m3 : ∀ b, b ≠ a → g_ent (gC X) M' b = g_ent (gC X) M b) (m4 : g_fv M' a ci fi = v) (m5 : ∀ j, j ≠ fi → g_fv M' a ci j = g_fv M a ci j)
    (h : Go X d mc ms k Q pc' L st M' c z) : Go X d mc ms k Q pc L (v :: .ref a :: st) M c z := by
  subst hp
  obtain ⟨C, T, ty, ⟨c1, c2, c3, c4, c5⟩, f1, f2, f3, f4, f5, f6⟩ := hf
  intro p e s m args below meth cd A H locs ls hF hA hB hW hS hl
  obtain ⟨w1, w2, hat⟩ := hW.2 a (by rw [hk]; simp)
  rw [g_ent_obj hk (g_lt10 c1)] at hat
  have hK := hF.2.2.2.2.2.2.2.2.1
  have hts := hF.2.2.2.2.2.1
  have hap := va_apart (own := kO k) hts c2 ty c3 c4 hK c1
  obtain ⟨r, h1, cell, q1, q2, q3, q4⟩ := hat
  have hr : r = (C, T, N) := Option.some.inj (h1.symm.trans c1)
  subst hr
  obtain ⟨hSl, hfc, kC, hkC, hkind⟩ := hK.1 ci _ c1
  obtain ⟨cf, kf, fj, f, hi, hsl⟩ := hSl fi f2
  have hlay := hts _ (c2 _ (u_in_lay f2))
  unfold u_lay at hlay
  rw [if_neg (by rw [f4]; decide)] at hlay
  have hst := (u_facts hfc hkC (u_lays hts c2 f2) hi).1
  have h6 := u_store hfc hkC hkind hlay hi (c3 fi f2) (by rw [f5]; exact hn) (by rw [f5]; exact hfit)
  refine W.putK hF.1 hF.2.1 (f := f) ⟨hF.2.2.2.2.1, hts _ f1, ⟨_, _, _, hi⟩, hst⟩ (by rw [q2]; exact h6) q1 q3 (by rw [hsl]; exact k2_hasslot (q4 fi f2)) rfl rfl hd fun H' e1 e2 e3 => ?_
  rw [hsl] at e1 ⊢
  refine h p e s m args below meth cd A H' _ ls hF hA hB (hW.put m1 m2 m3 e2 e3 fun _ => ?_) (hS.put e2 e3 w2) hl
  rw [g_ent_obj (by rw [m1]; exact hk) (g_lt10 c1), ← g_fs_set m4 m5]
  exact ⟨_, c1, t_OB.to (V := updV (vp_V ((List.range N).map (g_fv M a ci))) fi v) ⟨_, e1, q2, q3, t_set q4 hap f2 v⟩ (fun j _ => vp_updV_set (by simpa using f2) v j)⟩
/-- the same of a final field, in a constructor -/
theorem g_putVF {ix ci fi N a : Nat} {isR : Bool} {ft : FieldType} {v : Value} {M' : gM} (pc' : Nat) (hd : decode (kB k) pc = .ok (.putfield ix, 3)) (hp : pc + 3 = pc') (hf : g_FL (kO k) ix ci fi N isR true ft true) (hk : g_kd M a = some (ci, N)) (hin : (kY k).name = "<init>") (hn : narrow ft v = v) (hfit : fits ft v = true)
    (m1 : g_kd M' = g_kd M) (m2 : g_nx M' = g_nx M) (m3 : ∀ b, b ≠ a → g_ent (gC X) M' b = g_ent (gC X) M b) (m4 : g_fv M' a ci fi = v) (m5 : ∀ j, j ≠ fi → g_fv M' a ci j = g_fv M a ci j)
    (h : Go X d mc ms k Q pc' L st M' c z) : Go X d mc ms k Q pc L (v :: .ref a :: st) M c z := by
  subst hp
  obtain ⟨C, T, ty, ⟨c1, c2, c3, c4, c5⟩, f1, f2, f3, f4, f5, f6⟩ := hf
  intro p e s m args below meth cd A H locs ls hF hA hB hW hS hl
  obtain ⟨w1, w2, hat⟩ := hW.2 a (by rw [hk]; simp)
  rw [g_ent_obj hk (g_lt10 c1)] at hat
  have hK := hF.2.2.2.2.2.2.2.2.1
  have hts := hF.2.2.2.2.2.1
  have hown := hF.2.2.2.2.1
  have hap := va_apart (own := kO k) hts c2 ty c3 c4 hK c1
  obtain ⟨r, h1, cell, q1, q2, q3, q4⟩ := hat
  have hr : r = (C, T, N) := Option.some.inj (h1.symm.trans c1)
  subst hr
  obtain ⟨hSl, hfc, kC, hkC, hkind⟩ := hK.1 ci _ c1
  obtain ⟨cf, kf, fj, f, hi, hsl⟩ := hSl fi f2
  have hlay := hts _ (c2 _ (u_in_lay f2))
  unfold u_lay at hlay
  rw [if_pos f4] at hlay
  have hst := (u_facts hfc hkC (u_lays hts c2 f2) hi).1
  have hcf : m.cls = cf := by
    obtain ⟨_, _, c', _, _, _, -, -, hf', -, -, -, hown2, -⟩ := Cond.laysFinal_spec hlay
    have e1 : c' = cf := by have := hi.symm.trans hf'; simp at this; exact this.1.symm
    rw [f6 rfl] at hown2
    rw [← e1]; exact Option.some.inj (hown.symm.trans hown2)
  have h6 := u_fits hfc hkC hkind (Or.inr hlay) hi (c3 fi f2) (by rw [f5]; exact hn) (by rw [f5]; exact hfit)
  refine W.putFinK hF.1 hF.2.1 hown (hts _ f1) hi hst hcf (by rw [hF.2.2.2.2.2.2.2.1]; exact hin) (by rw [q2]; exact h6) q1 q3 (by rw [hsl]; exact k2_hasslot (q4 fi f2)) rfl rfl hd fun H' e1 e2 e3 => ?_
  rw [hsl] at e1 ⊢
  refine h p e s m args below meth cd A H' _ ls hF hA hB (hW.put m1 m2 m3 e2 e3 fun _ => ?_) (hS.put e2 e3 w2) hl
  rw [g_ent_obj (by rw [m1]; exact hk) (g_lt10 c1), ← g_fs_set m4 m5]
  exact ⟨_, c1, t_OB.to (V := updV (vp_V ((List.range N).map (g_fv M a ci))) fi v) ⟨_, e1, q2, q3, t_set q4 hap f2 v⟩ (fun j _ => vp_updV_set (by simpa using f2) v j)⟩
theorem g_wi_ent {aC : Nat → ClassId} {M : gM} {a i : Nat} {v : Int32} (b : Nat) (h : b ≠ a) : g_ent aC (g_wi M a i v) b = g_ent aC M b := g_ent_ne rfl rfl (by rw [g_mi_wi, g_u2_ne _ _ _ h]) rfl
theorem g_wr_ent {aC : Nat → ClassId} {M : gM} {a i : Nat} {v : Option Nat} (b : Nat) (h : b ≠ a) : g_ent aC (g_wr M a i v) b = g_ent aC M b := g_ent_ne rfl (by rw [g_mr_wr, g_u2_ne _ _ _ h]) rfl rfl
theorem g_wl_ent {aC : Nat → ClassId} {M : gM} {a i : Nat} {v : Int64} (b : Nat) (h : b ≠ a) : g_ent aC (g_wl M a i v) b = g_ent aC M b := g_ent_ne rfl rfl rfl (by rw [g_ml_wl, g_u2_ne _ _ _ h])
theorem g_wi_fv {M : gM} {a i ci : Nat} {v : Int32} (hr : g_isR ci i = false) : g_fv (g_wi M a i v) a ci i = .int v := by simp [g_fv, hr, g_mi_wi, g_u2]
theorem g_wi_fvo {M : gM} {a i ci : Nat} {v : Int32} (j : Nat) (h : j ≠ i) : g_fv (g_wi M a i v) a ci j = g_fv M a ci j := by simp [g_fv, g_mi_wi, g_mr_wi, g_u2, h]
theorem g_wr_fv {M : gM} {a i ci : Nat} {v : Option Nat} (hr : g_isR ci i = true) : g_fv (g_wr M a i v) a ci i = va_rf v := by simp [g_fv, hr, g_mr_wr, g_u2]
theorem g_wr_fvo {M : gM} {a i ci : Nat} {v : Option Nat} (j : Nat) (h : j ≠ i) : g_fv (g_wr M a i v) a ci j = g_fv M a ci j := by simp [g_fv, g_mi_wr, g_mr_wr, g_u2, h]
theorem g_putI {ix ci fi N a : Nat} {dc : Bool} {v : Int32} (pc' : Nat) (hd : decode (kB k) pc = .ok (.putfield ix, 3)) (hp : pc + 3 = pc') (hf : g_FL (kO k) ix ci fi N false false .int dc) (hk : g_kd M a = some (ci, N)) (h : Go X d mc ms k Q pc' L st (g_wi M a fi v) c z) : Go X d mc ms k Q pc L (.int v :: .ref a :: st) M c z := by
  have hR : g_isR ci fi = false := by obtain ⟨C, T, ty, hc, f1, f2, f3, f4, f5, f6⟩ := hf; exact f3
  exact g_putV (v := .int v) (M' := g_wi M a fi v) pc' hd hp hf hk rfl rfl rfl rfl (g_wi_ent) (g_wi_fv hR) (g_wi_fvo) h
theorem g_putZ {ix ci fi N a : Nat} {dc : Bool} {v : Int32} (pc' : Nat) (hd : decode (kB k) pc = .ok (.putfield ix, 3)) (hp : pc + 3 = pc') (hf : g_FL (kO k) ix ci fi N false false .boolean dc) (hk : g_kd M a = some (ci, N)) (hv : v = 0 ∨ v = 1) (h : Go X d mc ms k Q pc' L st (g_wi M a fi v) c z) : Go X d mc ms k Q pc L (.int v :: .ref a :: st) M c z := by
  have hR : g_isR ci fi = false := by obtain ⟨C, T, ty, hc, f1, f2, f3, f4, f5, f6⟩ := hf; exact f3
  exact g_putV (v := .int v) (M' := g_wi M a fi v) pc' hd hp hf hk (by rcases hv with rfl | rfl <;> rfl) (by rcases hv with rfl | rfl <;> rfl) rfl rfl (g_wi_ent) (g_wi_fv hR) (g_wi_fvo) h
theorem g_putRF {ix ci fi N a b : Nat} {ft : FieldType} (pc' : Nat) (hd : decode (kB k) pc = .ok (.putfield ix, 3)) (hp : pc + 3 = pc') (hf : g_FL (kO k) ix ci fi N true true ft true) (hk : g_kd M a = some (ci, N)) (hin : (kY k).name = "<init>") (hn : narrow ft (.ref b) = .ref b) (hfit : fits ft (.ref b) = true) (h : Go X d mc ms k Q pc' L st (g_wr M a fi (some b)) c z) : Go X d mc ms k Q pc L (.ref b :: .ref a :: st) M c z := by
  have hR : g_isR ci fi = true := by obtain ⟨C, T, ty, hc, f1, f2, f3, f4, f5, f6⟩ := hf; exact f3
  exact g_putVF (v := .ref b) (M' := g_wr M a fi (some b)) pc' hd hp hf hk hin hn hfit rfl rfl (g_wr_ent) (g_wr_fv hR) (g_wr_fvo) h
/-- arrays -/
theorem g_iaload {a n : Nat} {i : Int32} (pc' : Nat) (hd : decode (kB k) pc = .ok (.iaload, 1)) (hp : pc + 1 = pc') (hk : g_kd M a = some (100, n)) (hin : vp_in i n) (h : Go X d mc ms k Q pc' L (.int (g_mi M a i.toNatClampNeg) :: st) M c z) : Go X d mc ms k Q pc L (.int i :: .ref a :: st) M c z := by
  subst hp
  intro p e s m args below meth cd A H locs ls hF hA hB hW hS hl
  have hat := (hW.2 a (by rw [hk]; simp)).2.2
  rw [g_ent_i (t := 0) hk (by omega)] at hat
  exact va_iald (ws := [(a, .inl (gC X 0, n, .inl (g_mi M a)))]) hF.1 hF.2.1 hF.2.2.2.2.2.2.2.2.1 (fun j q hj => by
    have : j = 0 := by have := (List.getElem?_eq_some_iff.mp hj).1; simp at this; omega
    subst this
    cases hj
    exact hat) 0 0 rfl rfl hin hd (h p e s m args below meth cd A H locs ls hF hA hB hW hS hl)
theorem g_baload {a n : Nat} {i : Int32} (pc' : Nat) (hd : decode (kB k) pc = .ok (.baload, 1)) (hp : pc + 1 = pc') (hk : g_kd M a = some (101, n)) (hin : vp_in i n) (h : Go X d mc ms k Q pc' L (.int (g_mi M a i.toNatClampNeg) :: st) M c z) : Go X d mc ms k Q pc L (.int i :: .ref a :: st) M c z := by
  subst hp
  intro p e s m args below meth cd A H locs ls hF hA hB hW hS hl
  have hat := (hW.2 a (by rw [hk]; simp)).2.2
  rw [g_ent_i (t := 1) hk (by omega)] at hat
  exact va_bald (ws := [(a, .inl (gC X 1, n, .inl (g_mi M a)))]) hF.1 hF.2.1 hF.2.2.2.2.2.2.2.2.1 (fun j q hj => by
    have : j = 0 := by have := (List.getElem?_eq_some_iff.mp hj).1; simp at this; omega
    subst this
    cases hj
    exact hat) 0 1 rfl rfl hin hd (h p e s m args below meth cd A H locs ls hF hA hB hW hS hl)
theorem g_zaload {a n : Nat} {i : Int32} (pc' : Nat) (hd : decode (kB k) pc = .ok (.baload, 1)) (hp : pc + 1 = pc') (hk : g_kd M a = some (102, n)) (hin : vp_in i n) (h : Go X d mc ms k Q pc' L (.int (g_mi M a i.toNatClampNeg) :: st) M c z) : Go X d mc ms k Q pc L (.int i :: .ref a :: st) M c z := by
  subst hp
  intro p e s m args below meth cd A H locs ls hF hA hB hW hS hl
  have hat := (hW.2 a (by rw [hk]; simp)).2.2
  rw [g_ent_i (t := 2) hk (by omega)] at hat
  exact va_zald (ws := [(a, .inl (gC X 2, n, .inl (g_mi M a)))]) hF.1 hF.2.1 hF.2.2.2.2.2.2.2.2.1 (fun j q hj => by
    have : j = 0 := by have := (List.getElem?_eq_some_iff.mp hj).1; simp at this; omega
    subst this
    cases hj
    exact hat) 0 2 rfl rfl hin hd (h p e s m args below meth cd A H locs ls hF hA hB hW hS hl)
theorem g_laload {a n : Nat} {i : Int32} (pc' : Nat) (hd : decode (kB k) pc = .ok (.laload, 1)) (hp : pc + 1 = pc') (hk : g_kd M a = some (103, n)) (hin : vp_in i n) (h : Go X d mc ms k Q pc' L (.long (g_ml M a i.toNatClampNeg) :: st) M c z) : Go X d mc ms k Q pc L (.int i :: .ref a :: st) M c z := by
  subst hp
  intro p e s m args below meth cd A H locs ls hF hA hB hW hS hl
  have hat := (hW.2 a (by rw [hk]; simp)).2.2
  rw [g_ent_l hk] at hat
  exact va_lald (ws := [(a, .inl (gC X 3, n, .inr (.inl (g_ml M a))))]) hF.1 hF.2.1 hF.2.2.2.2.2.2.2.2.1 (fun j q hj => by
    have : j = 0 := by have := (List.getElem?_eq_some_iff.mp hj).1; simp at this; omega
    subst this
    cases hj
    exact hat) 0 3 rfl rfl hin hd (h p e s m args below meth cd A H locs ls hF hA hB hW hS hl)
theorem g_aaload {a n t : Nat} {C : String} {i : Int32} (pc' : Nat) (hd : decode (kB k) pc = .ok (.aaload, 1)) (hp : pc + 1 = pc') (hk : g_kd M a = some (100 + t, n)) (ht : 4 ≤ t) (hty : (g_atys (gC X))[t]? = some (gC X t, .object C)) (hin : vp_in i n) (h : Go X d mc ms k Q pc' L (va_rf (g_mr M a i.toNatClampNeg) :: st) M c z) : Go X d mc ms k Q pc L (.int i :: .ref a :: st) M c z := by
  subst hp
  intro p e s m args below meth cd A H locs ls hF hA hB hW hS hl
  have hat := (hW.2 a (by rw [hk]; simp)).2.2
  rw [g_ent_q hk ht] at hat
  exact va_aldq (ws := [(a, .inl (gC X t, n, .inr (.inr (.inr (.inr (g_mr M a))))))]) hF.1 hF.2.1 hF.2.2.2.2.2.2.2.2.1 (fun j q hj => by
    have : j = 0 := by have := (List.getElem?_eq_some_iff.mp hj).1; simp at this; omega
    subst this
    cases hj
    exact hat) 0 t rfl hty hin hd (h p e s m args below meth cd A H locs ls hF hA hB hW hS hl)
theorem g_alen {a t n : Nat} {v : Int32} (pc' : Nat) (hd : decode (kB k) pc = .ok (.arraylength, 1)) (hp : pc + 1 = pc') (hk : g_kd M a = some (100 + t, n)) (ht : t < 3) (hv : Int32.ofNat n = v) (h : Go X d mc ms k Q pc' L (.int v :: st) M c z) : Go X d mc ms k Q pc L (.ref a :: st) M c z := by
  subst hp
  intro p e s m args below meth cd A H locs ls hF hA hB hW hS hl
  have hat := (hW.2 a (by rw [hk]; simp)).2.2
  rw [g_ent_i hk ht] at hat
  have hty : ∃ ty, (g_atys (gC X))[t]? = some (gC X t, ty) := by
    rcases (show t = 0 ∨ t = 1 ∨ t = 2 by omega) with rfl | rfl | rfl <;> exact ⟨_, rfl⟩
  obtain ⟨ty, hty⟩ := hty
  exact va_alen (ws := [(a, .inl (gC X t, n, .inl (g_mi M a)))]) hF.1 hF.2.1 hF.2.2.2.2.2.2.2.2.1 (fun j q hj => by
    have : j = 0 := by have := (List.getElem?_eq_some_iff.mp hj).1; simp at this; omega
    subst this
    cases hj
    exact hat) 0 t rfl hty hv hd (h p e s m args below meth cd A H locs ls hF hA hB hW hS hl)
theorem g_alenL {a n : Nat} {v : Int32} (pc' : Nat) (hd : decode (kB k) pc = .ok (.arraylength, 1)) (hp : pc + 1 = pc') (hk : g_kd M a = some (103, n)) (hv : Int32.ofNat n = v) (h : Go X d mc ms k Q pc' L (.int v :: st) M c z) : Go X d mc ms k Q pc L (.ref a :: st) M c z := by
  subst hp
  intro p e s m args below meth cd A H locs ls hF hA hB hW hS hl
  have hat := (hW.2 a (by rw [hk]; simp)).2.2
  rw [g_ent_l hk] at hat
  exact va_alen (ws := [(a, .inl (gC X 3, n, .inr (.inl (g_ml M a))))]) hF.1 hF.2.1 hF.2.2.2.2.2.2.2.2.1 (fun j q hj => by
    have : j = 0 := by have := (List.getElem?_eq_some_iff.mp hj).1; simp at this; omega
    subst this
    cases hj
    exact hat) 0 3 rfl rfl hv hd (h p e s m args below meth cd A H locs ls hF hA hB hW hS hl)
end GO2
