/-! A light machine over the kit's rows: a memory M of kinds, references, ints and longs by address; 'Go': from here the method comes to its end with Q; 'Cn': a method's contract at a memory. -/
abbrev gK : Type := String × MethodName × ByteArray × Nat × Option FieldType
abbrev gM : Type := (Nat → Option (Nat × Nat)) × (Nat → Nat → Option Nat) × (Nat → Nat → Int32) × (Nat → Nat → Int64) × Nat
abbrev gX : Type := Launch × va_G × (Nat → ClassId) × Nat × (Nat → Nat) × (Nat → Nat)
abbrev kO (k : gK) : String := k.1
abbrev kY (k : gK) : MethodName := k.2.1
abbrev kB (k : gK) : ByteArray := k.2.2.1
abbrev kN (k : gK) : Nat := k.2.2.2.1
abbrev kR (k : gK) : Option FieldType := k.2.2.2.2
def gL (X : gX) : Launch := X.1
def gD (X : gX) : va_G := X.2.1
def gC (X : gX) : Nat → ClassId := X.2.2.1
def gB (X : gX) : Nat := X.2.2.2.1
def g_kd (M : gM) : Nat → Option (Nat × Nat) := M.1
def g_mr (M : gM) : Nat → Nat → Option Nat := M.2.1
def g_mi (M : gM) : Nat → Nat → Int32 := M.2.2.1
def g_ml (M : gM) : Nat → Nat → Int64 := M.2.2.2.1
def g_nx (M : gM) : Nat := M.2.2.2.2
def g_u2 {α : Type} (f : Nat → Nat → α) (a i : Nat) (v : α) : Nat → Nat → α := fun b j => if b = a ∧ j = i then v else f b j
def g_wi (M : gM) (a i : Nat) (v : Int32) : gM := (M.1, M.2.1, g_u2 M.2.2.1 a i v, M.2.2.2.1, M.2.2.2.2)
def g_wl (M : gM) (a i : Nat) (v : Int64) : gM := (M.1, M.2.1, M.2.2.1, g_u2 M.2.2.2.1 a i v, M.2.2.2.2)
def g_wr (M : gM) (a i : Nat) (v : Option Nat) : gM := (M.1, g_u2 M.2.1 a i v, M.2.2.1, M.2.2.2.1, M.2.2.2.2)
/-- the ints of the array a, n from sp on, come into the array b from dp on -/
def g_cp (M : gM) (a b sp dp n : Nat) : gM := (M.1, M.2.1, va_up M.2.2.1 b (va_cpy (M.2.2.1 a) (M.2.2.1 b) sp dp n), M.2.2.2.1, M.2.2.2.2)
def g_new (M : gM) (c n : Nat) : gM := (va_up M.1 M.2.2.2.2 (some (c, n)), va_up M.2.1 M.2.2.2.2 (fun _ => none), va_up M.2.2.1 M.2.2.2.2 (fun _ => 0), va_up M.2.2.2.1 M.2.2.2.2 (fun _ => 0), M.2.2.2.2 + 1)
/-- which fields are references: by class and place -/
def g_rf : List (List Bool) := [[true, true, false, false], [true, true, true, true, true, true, true, true, false], [true, true, true, true, false, false, false, true, true, true, false, false, false], [true, true, true, false, false, false], [true, true], [true, true, true, false, false, false, false], [true, true, true, true, true, true, false, false], [true, true, true, true, false, false, false, false], [true, true, true, true, true, true, true, true, true, true, true, true, true, true, false, false, false], [false, true, true, true, true, true, false, true, false, false, false, true, true, false, false, true, true, true, false, false, false, false, false, false, false, false, true, false, false, true, true, true, true, true, true, false, true, true, false, true, false, false, false, false, false, false, true, true, false, false]]
def g_isR (c k : Nat) : Bool := (g_rf.getD c []).getD k false
def g_fv (M : gM) (a c k : Nat) : Value := if g_isR c k = true then va_rf (g_mr M a k) else .int (g_mi M a k)
def g_ent (aC : Nat → ClassId) (M : gM) (a : Nat) : va_E := match g_kd M a with
  | none => .inr (0, [])
  | some (c, n) => if c < 100 then .inr (c, (List.range n).map (g_fv M a c)) else if c < 103 then .inl (aC (c - 100), n, .inl (g_mi M a)) else if c = 103 then .inl (aC 3, n, .inr (.inl (g_ml M a))) else .inl (aC (c - 100), n, .inr (.inr (.inr (.inr (g_mr M a)))))
def g_aty : Nat → FieldType := fun k => match k with
  | 0 => .int
  | 1 => .byte
  | 2 => .boolean
  | 3 => .long
  | 4 => .object RX3
  | 5 => .object RX6
  | _ => .object RX7
def g_atys (aC : Nat → ClassId) : List (ClassId × FieldType) := [(aC 0, .int), (aC 1, .byte), (aC 2, .boolean), (aC 3, .long), (aC 4, .object RX3), (aC 5, .object RX6), (aC 6, .object RX7)]
/-- the world: every cell of the memory stands in the heap -/
def g_Wd (X : gX) (A : Nat → Prop) (M : gM) (H : Heap) : Prop := H.size = g_nx M ∧ ∀ a, g_kd M a ≠ none → gB X ≤ a ∧ A a ∧ va_at (gD X) vwCl (a, g_ent (gC X) M a) H
def gtbl : List Cond := lw_tbl.filter goodWord
def gws (k : gK) : List Cond := Cond.code (kY k) (kB k) (kN k) (kR k) :: gtbl
def g_room (d mc ms : Nat) : Room := { frames := d, cells := mc, slots := ms, locals := 64 * d }
/-- the vocabulary's String -/
def g_vb : List Int32 := (("vertex part key seed mood degree time done latest keys number ranks bars add take side build times if or and not ".toList).map (fun ch => Int32.ofNat ch.toNat))
/-- private methods of nest mates: class, place, callee -/
def g_nst : List (String × Nat × MethodName) := [("PeeledHash", 13, ⟨"PeeledHash$Whole", "<init>", "()V"⟩), ("PeeledHash$State", 20, ⟨"PeeledHash$Table", "<init>", "()V"⟩), ("PeeledHash", 44, ⟨"PeeledHash$Sums", "<init>", "()V"⟩), ("PeeledHash", 60, ⟨"PeeledHash$Reader", "<init>", "()V"⟩), ("PeeledHash$State", 56, ⟨"PeeledHash", "vertexOf", "(IIII)I"⟩), ("PeeledHash$Table", 77, ⟨"PeeledHash", "vertexOf", "(IIII)I"⟩), ("PeeledHash$Peeler", 80, ⟨"PeeledHash", "vertexOf", "(IIII)I"⟩)]
/-- what stays outside the memory: the vocabulary's String, links of nest mates, rows of objects, two statics -/
def g_Str (X : gX) (s : State) : Prop := vk_R RX2 89 "vertex part key seed mood degree time done latest keys number ranks bars add take side build times if or and not " (X.2.2.2.2.1 0) s ∧ vk_S 1 [113] [g_vb] X.2.2.2.2.1 X.2.2.2.2.2 (fun q => gB X ≤ q) s s.heap ∧ (∀ q ∈ g_nst, va_Nw (.methodLinkNest q.1 q.2.1 q.2.2 "PeeledHash") s) ∧ (∀ C ∈ [RX3, RX6, RX7], va_AO C s) ∧ va_Z "java/lang/String" "COMPACT_STRINGS" "Z" (.int 1) (fun q => gB X ≤ q) s s.heap ∧ va_Zq "jdk/internal/util/Preconditions" "SIOOBE_FORMATTER" "Ljava/util/function/BiFunction;" (fun q => gB X ≤ q) s s.heap
def gFix (X : gX) (k : gK) (p : Program) (s : State) (m : MethodId) (args : Array Value) (meth : Method) (c : Code) : Prop :=
  p.tables.exec = Jvm.exec ∧ c.code = kB k ∧ meth.sig.returnType = kR k ∧ c.maxLocals = kN k ∧ s.vm.findClass (kO k) = some m.cls ∧ (∀ w ∈ gtbl, w.before args s = true) ∧ meth.locks = false ∧ meth.name = (kY k).name ∧ va_K (gD X) vwCl (g_atys (gC X)) s ∧ g_Str X s
def g_Qc (X : gX) (Q : Option Value → gM → Prop) (A : Nat → Prop) : Array Value → State → Outcome → State → Prop := fun _ st oc t => (∃ (v : Option Value) (M : gM), oc = .returned v ∧ Q v M ∧ g_Wd X A M t.heap) ∧ va_F A st t
def Go (X : gX) (d mc ms : Nat) (k : gK) (Q : Option Value → gM → Prop) (pc : Nat) (L : List (Nat × Value)) (st : List Value) (M : gM) (c z : Nat) : Prop :=
  ∀ (p : Program) (e : Env) (s : State) (m : MethodId) (args : Array Value) (below : List Frame) (meth : Method) (cd : Code) (A : Nat → Prop) (H : Heap) (locs : List Loc) (ls : Array Slot),
    gFix X k p s m args meth cd → (∀ q, s.heap.size ≤ q → A q) → (∀ q, A q → gB X ≤ q) → g_Wd X A M H → va_S A s.heap H locs → lv_has ls (kN k) L →
    W p (gL X) e (g_room d mc ms) s m args below meth cd H locs c z (MQ below (g_Qc X Q A) args s mc ms A) (F0 m pc ls st)
def g_Pre (X : gX) (A : Nat → Prop) (av : List Value) (M : gM) : Array Value → State → Prop := fun a U => a = av.toArray ∧ g_Wd X A M U.heap ∧ va_K (gD X) vwCl (g_atys (gC X)) U ∧ g_Str X U
def Cn (X : gX) (d mc ms : Nat) (k : gK) (av : List Value) (M : gM) (Q : Option Value → gM → Prop) : Prop :=
  ∀ A : Nat → Prop, (∀ q, g_nx M ≤ q → A q) → (∀ q, A q → gB X ≤ q) → Met (gL X) (kY k) (gws k) (g_room d mc ms) (g_Pre X A av M) (g_Qc X Q A) mc ms A
section GO
variable {X : gX} {d mc ms : Nat} {k : gK} {Q : Option Value → gM → Prop} {pc : Nat} {L : List (Nat × Value)} {st : List Value} {M : gM} {c z : Nat}

theorem g_iadd {x y : Int32} (pc' : Nat) (hd : decode (kB k) pc = .ok (.iadd, 1)) (hp : pc + 1 = pc') (h : Go X d mc ms k Q pc' L (.int (x + y) :: st) M c z) : Go X d mc ms k Q pc L (.int y :: .int x :: st) M c z := by
  subst hp
  exact fun p e s m args below meth cd A H locs ls hF hA hB hW hS hl => lv_iadd hF.1 hF.2.1 hd (h p e s m args below meth cd A H locs ls hF hA hB hW hS hl)
theorem g_isub {x y : Int32} (pc' : Nat) (hd : decode (kB k) pc = .ok (.isub, 1)) (hp : pc + 1 = pc') (h : Go X d mc ms k Q pc' L (.int (x - y) :: st) M c z) : Go X d mc ms k Q pc L (.int y :: .int x :: st) M c z := by
  subst hp
  exact fun p e s m args below meth cd A H locs ls hF hA hB hW hS hl => lv_isub hF.1 hF.2.1 hd (h p e s m args below meth cd A H locs ls hF hA hB hW hS hl)
theorem g_imul {x y : Int32} (pc' : Nat) (hd : decode (kB k) pc = .ok (.imul, 1)) (hp : pc + 1 = pc') (h : Go X d mc ms k Q pc' L (.int (x * y) :: st) M c z) : Go X d mc ms k Q pc L (.int y :: .int x :: st) M c z := by
  subst hp
  exact fun p e s m args below meth cd A H locs ls hF hA hB hW hS hl => lv_imul hF.1 hF.2.1 hd (h p e s m args below meth cd A H locs ls hF hA hB hW hS hl)
theorem g_iand {x y : Int32} (pc' : Nat) (hd : decode (kB k) pc = .ok (.iand, 1)) (hp : pc + 1 = pc') (h : Go X d mc ms k Q pc' L (.int (x &&& y) :: st) M c z) : Go X d mc ms k Q pc L (.int y :: .int x :: st) M c z := by
  subst hp
  exact fun p e s m args below meth cd A H locs ls hF hA hB hW hS hl => lv_iand hF.1 hF.2.1 hd (h p e s m args below meth cd A H locs ls hF hA hB hW hS hl)
theorem g_ixor {x y : Int32} (pc' : Nat) (hd : decode (kB k) pc = .ok (.ixor, 1)) (hp : pc + 1 = pc') (h : Go X d mc ms k Q pc' L (.int (x ^^^ y) :: st) M c z) : Go X d mc ms k Q pc L (.int y :: .int x :: st) M c z := by
  subst hp
  exact fun p e s m args below meth cd A H locs ls hF hA hB hW hS hl => lv_ixor hF.1 hF.2.1 hd (h p e s m args below meth cd A H locs ls hF hA hB hW hS hl)
theorem g_ishr {x y : Int32} (pc' : Nat) (hd : decode (kB k) pc = .ok (.ishr, 1)) (hp : pc + 1 = pc') (h : Go X d mc ms k Q pc' L (.int (x >>> (y &&& 31)) :: st) M c z) : Go X d mc ms k Q pc L (.int y :: .int x :: st) M c z := by
  subst hp
  exact fun p e s m args below meth cd A H locs ls hF hA hB hW hS hl => lv_ishr hF.1 hF.2.1 hd (h p e s m args below meth cd A H locs ls hF hA hB hW hS hl)
theorem g_iushr {x y : Int32} (pc' : Nat) (hd : decode (kB k) pc = .ok (.iushr, 1)) (hp : pc + 1 = pc') (h : Go X d mc ms k Q pc' L (.int ((x.toUInt32 >>> (y.toUInt32 &&& Int32.toUInt32 31)).toInt32) :: st) M c z) : Go X d mc ms k Q pc L (.int y :: .int x :: st) M c z := by
  subst hp
  exact fun p e s m args below meth cd A H locs ls hF hA hB hW hS hl => lv_iushr hF.1 hF.2.1 hd rfl (h p e s m args below meth cd A H locs ls hF hA hB hW hS hl)
theorem g_idiv {x y : Int32} (pc' : Nat) (hd : decode (kB k) pc = .ok (.idiv, 1)) (hp : pc + 1 = pc') (hne : ¬ y = 0) (h : Go X d mc ms k Q pc' L (.int (x / y) :: st) M c z) : Go X d mc ms k Q pc L (.int y :: .int x :: st) M c z := by
  subst hp
  exact fun p e s m args below meth cd A H locs ls hF hA hB hW hS hl => lv_idiv hF.1 hF.2.1 hd hne (h p e s m args below meth cd A H locs ls hF hA hB hW hS hl)
theorem g_irem {x y : Int32} (pc' : Nat) (hd : decode (kB k) pc = .ok (.irem, 1)) (hp : pc + 1 = pc') (hne : ¬ y = 0) (h : Go X d mc ms k Q pc' L (.int (x - x / y * y) :: st) M c z) : Go X d mc ms k Q pc L (.int y :: .int x :: st) M c z := by
  subst hp
  exact fun p e s m args below meth cd A H locs ls hF hA hB hW hS hl => lv_irem hF.1 hF.2.1 hd hne (h p e s m args below meth cd A H locs ls hF hA hB hW hS hl)
theorem g_ineg {x : Int32} (pc' : Nat) (hd : decode (kB k) pc = .ok (.ineg, 1)) (hp : pc + 1 = pc') (h : Go X d mc ms k Q pc' L (.int (-x) :: st) M c z) : Go X d mc ms k Q pc L (.int x :: st) M c z := by
  subst hp
  exact fun p e s m args below meth cd A H locs ls hF hA hB hW hS hl => lv_ineg hF.1 hF.2.1 hd (h p e s m args below meth cd A H locs ls hF hA hB hW hS hl)
theorem g_ladd {x y : Int64} (pc' : Nat) (hd : decode (kB k) pc = .ok (.ladd, 1)) (hp : pc + 1 = pc') (h : Go X d mc ms k Q pc' L (.long (x + y) :: st) M c z) : Go X d mc ms k Q pc L (.long y :: .long x :: st) M c z := by
  subst hp
  exact fun p e s m args below meth cd A H locs ls hF hA hB hW hS hl => lv_ladd hF.1 hF.2.1 hd (h p e s m args below meth cd A H locs ls hF hA hB hW hS hl)
theorem g_lsub {x y : Int64} (pc' : Nat) (hd : decode (kB k) pc = .ok (.lsub, 1)) (hp : pc + 1 = pc') (h : Go X d mc ms k Q pc' L (.long (x - y) :: st) M c z) : Go X d mc ms k Q pc L (.long y :: .long x :: st) M c z := by
  subst hp
  exact fun p e s m args below meth cd A H locs ls hF hA hB hW hS hl => lv_lsub hF.1 hF.2.1 hd (h p e s m args below meth cd A H locs ls hF hA hB hW hS hl)
theorem g_lmul {x y : Int64} (pc' : Nat) (hd : decode (kB k) pc = .ok (.lmul, 1)) (hp : pc + 1 = pc') (h : Go X d mc ms k Q pc' L (.long (x * y) :: st) M c z) : Go X d mc ms k Q pc L (.long y :: .long x :: st) M c z := by
  subst hp
  exact fun p e s m args below meth cd A H locs ls hF hA hB hW hS hl => lv_lmul hF.1 hF.2.1 hd (h p e s m args below meth cd A H locs ls hF hA hB hW hS hl)
theorem g_ldiv {x y : Int64} (pc' : Nat) (hd : decode (kB k) pc = .ok (.ldiv, 1)) (hp : pc + 1 = pc') (hne : ¬ y = 0) (h : Go X d mc ms k Q pc' L (.long (x / y) :: st) M c z) : Go X d mc ms k Q pc L (.long y :: .long x :: st) M c z := by
  subst hp
  exact fun p e s m args below meth cd A H locs ls hF hA hB hW hS hl => lv_ldiv hF.1 hF.2.1 hd hne (h p e s m args below meth cd A H locs ls hF hA hB hW hS hl)
theorem g_lrem {x y : Int64} (pc' : Nat) (hd : decode (kB k) pc = .ok (.lrem, 1)) (hp : pc + 1 = pc') (hne : ¬ y = 0) (h : Go X d mc ms k Q pc' L (.long (x - x / y * y) :: st) M c z) : Go X d mc ms k Q pc L (.long y :: .long x :: st) M c z := by
  subst hp
  exact fun p e s m args below meth cd A H locs ls hF hA hB hW hS hl => lv_lrem hF.1 hF.2.1 hd hne (h p e s m args below meth cd A H locs ls hF hA hB hW hS hl)
theorem g_lcmp {x y : Int64} (pc' : Nat) (hd : decode (kB k) pc = .ok (.lcmp, 1)) (hp : pc + 1 = pc') (h : Go X d mc ms k Q pc' L (.int (lg_cmp x y) :: st) M c z) : Go X d mc ms k Q pc L (.long y :: .long x :: st) M c z := by
  subst hp
  exact fun p e s m args below meth cd A H locs ls hF hA hB hW hS hl => W.lcmp hF.1 hF.2.1 hd (h p e s m args below meth cd A H locs ls hF hA hB hW hS hl)
theorem g_i2l {x : Int32} (pc' : Nat) (hd : decode (kB k) pc = .ok (.i2l, 1)) (hp : pc + 1 = pc') (h : Go X d mc ms k Q pc' L (.long (x.toInt64) :: st) M c z) : Go X d mc ms k Q pc L (.int x :: st) M c z := by
  subst hp
  exact fun p e s m args below meth cd A H locs ls hF hA hB hW hS hl => lv_i2l hF.1 hF.2.1 hd rfl (h p e s m args below meth cd A H locs ls hF hA hB hW hS hl)
theorem g_l2i {x : Int64} (pc' : Nat) (hd : decode (kB k) pc = .ok (.l2i, 1)) (hp : pc + 1 = pc') (h : Go X d mc ms k Q pc' L (.int (x.toInt32) :: st) M c z) : Go X d mc ms k Q pc L (.long x :: st) M c z := by
  subst hp
  exact fun p e s m args below meth cd A H locs ls hF hA hB hW hS hl => lv_l2i hF.1 hF.2.1 hd rfl (h p e s m args below meth cd A H locs ls hF hA hB hW hS hl)
theorem g_i2b {x : Int32} (pc' : Nat) (hd : decode (kB k) pc = .ok (.i2b, 1)) (hp : pc + 1 = pc') (h : Go X d mc ms k Q pc' L (.int (x.toInt8.toInt32) :: st) M c z) : Go X d mc ms k Q pc L (.int x :: st) M c z := by
  subst hp
  exact fun p e s m args below meth cd A H locs ls hF hA hB hW hS hl => lv_i2b hF.1 hF.2.1 hd rfl (h p e s m args below meth cd A H locs ls hF hA hB hW hS hl)
theorem g_iconst {n : Int} (v : Int32) (pc' : Nat) (hd : decode (kB k) pc = .ok (.iconst n, 1)) (hp : pc + 1 = pc') (hv : Int32.ofInt n = v) (h : Go X d mc ms k Q pc' L (.int v :: st) M c z) : Go X d mc ms k Q pc L (st) M c z := by
  subst hp
  exact fun p e s m args below meth cd A H locs ls hF hA hB hW hS hl => lv_iconst hF.1 hF.2.1 hd hv (h p e s m args below meth cd A H locs ls hF hA hB hW hS hl)
theorem g_bipush {n : Int} (v : Int32) (pc' : Nat) (hd : decode (kB k) pc = .ok (.bipush n, 2)) (hp : pc + 2 = pc') (hv : (Int8.ofInt n).toInt32 = v) (h : Go X d mc ms k Q pc' L (.int v :: st) M c z) : Go X d mc ms k Q pc L (st) M c z := by
  subst hp
  exact fun p e s m args below meth cd A H locs ls hF hA hB hW hS hl => lv_bipush hF.1 hF.2.1 hd hv (h p e s m args below meth cd A H locs ls hF hA hB hW hS hl)
theorem g_sipush {n : Int} (v : Int32) (pc' : Nat) (hd : decode (kB k) pc = .ok (.sipush n, 3)) (hp : pc + 3 = pc') (hv : (Int16.ofInt n).toInt32 = v) (h : Go X d mc ms k Q pc' L (.int v :: st) M c z) : Go X d mc ms k Q pc L (st) M c z := by
  subst hp
  exact fun p e s m args below meth cd A H locs ls hF hA hB hW hS hl => lv_sipush hF.1 hF.2.1 hd hv (h p e s m args below meth cd A H locs ls hF hA hB hW hS hl)
theorem g_lconst {n : Fin 2} (v : Int64) (pc' : Nat) (hd : decode (kB k) pc = .ok (.lconst n, 1)) (hp : pc + 1 = pc') (hv : Int64.ofNat (n : Nat) = v) (h : Go X d mc ms k Q pc' L (.long v :: st) M c z) : Go X d mc ms k Q pc L (st) M c z := by
  subst hp
  exact fun p e s m args below meth cd A H locs ls hF hA hB hW hS hl => lv_lconst hF.1 hF.2.1 hd hv (h p e s m args below meth cd A H locs ls hF hA hB hW hS hl)
theorem g_null (pc' : Nat) (hd : decode (kB k) pc = .ok (.aconst_null, 1)) (hp : pc + 1 = pc') (h : Go X d mc ms k Q pc' L (.null :: st) M c z) : Go X d mc ms k Q pc L (st) M c z := by
  subst hp
  exact fun p e s m args below meth cd A H locs ls hF hA hB hW hS hl => lv_null hF.1 hF.2.1 hd (h p e s m args below meth cd A H locs ls hF hA hB hW hS hl)
theorem g_dup {v : Value} (pc' : Nat) (hd : decode (kB k) pc = .ok (.dup, 1)) (hp : pc + 1 = pc') (hv : v.category = 1) (h : Go X d mc ms k Q pc' L (v :: v :: st) M c z) : Go X d mc ms k Q pc L (v :: st) M c z := by
  subst hp
  exact fun p e s m args below meth cd A H locs ls hF hA hB hW hS hl => lv_dup hF.1 hF.2.1 hd hv (h p e s m args below meth cd A H locs ls hF hA hB hW hS hl)
theorem g_pop {v : Value} (pc' : Nat) (hd : decode (kB k) pc = .ok (.pop, 1)) (hp : pc + 1 = pc') (hv : v.category = 1) (h : Go X d mc ms k Q pc' L (st) M c z) : Go X d mc ms k Q pc L (v :: st) M c z := by
  subst hp
  exact fun p e s m args below meth cd A H locs ls hF hA hB hW hS hl => lv_pop hF.1 hF.2.1 hd hv (h p e s m args below meth cd A H locs ls hF hA hB hW hS hl)
theorem g_dup2 {v u : Value} (pc' : Nat) (hd : decode (kB k) pc = .ok (.dup2, 1)) (hp : pc + 1 = pc') (hv : v.category = 1) (hu : u.category = 1) (h : Go X d mc ms k Q pc' L (v :: u :: v :: u :: st) M c z) : Go X d mc ms k Q pc L (v :: u :: st) M c z := by
  subst hp
  exact fun p e s m args below meth cd A H locs ls hF hA hB hW hS hl => lv_dup2_11 hF.1 hF.2.1 hd hv hu (h p e s m args below meth cd A H locs ls hF hA hB hW hS hl)
theorem g_dup_x1 {v u : Value} (pc' : Nat) (hd : decode (kB k) pc = .ok (.dup_x1, 1)) (hp : pc + 1 = pc') (hv : v.category = 1) (hu : u.category = 1) (h : Go X d mc ms k Q pc' L (v :: u :: v :: st) M c z) : Go X d mc ms k Q pc L (v :: u :: st) M c z := by
  subst hp
  exact fun p e s m args below meth cd A H locs ls hF hA hB hW hS hl => lv_dup_x1 hF.1 hF.2.1 hd hv hu (h p e s m args below meth cd A H locs ls hF hA hB hW hS hl)
theorem g_dup2w {v : Value} (pc' : Nat) (hd : decode (kB k) pc = .ok (.dup2, 1)) (hp : pc + 1 = pc') (hv : v.category = 2) (h : Go X d mc ms k Q pc' L (v :: v :: st) M c z) : Go X d mc ms k Q pc L (v :: st) M c z := by
  subst hp
  exact fun p e s m args below meth cd A H locs ls hF hA hB hW hS hl => lv_dup2_2 hF.1 hF.2.1 hd hv (h p e s m args below meth cd A H locs ls hF hA hB hW hS hl)
theorem g_ldc {ix : Nat} (v : Int32) (pc' : Nat) (hd : decode (kB k) pc = .ok (.ldc ix, 2)) (hp : pc + 2 = pc') (hm : Cond.constant (kO k) ix v ∈ gtbl) (h : Go X d mc ms k Q pc' L (.int v :: st) M c z) : Go X d mc ms k Q pc L (st) M c z := by
  subst hp
  exact fun p e s m args below meth cd A H locs ls hF hA hB hW hS hl => lv_ldc hF.1 hF.2.1 hF.2.2.2.2.1 (hF.2.2.2.2.2.1 _ hm) hd (h p e s m args below meth cd A H locs ls hF hA hB hW hS hl)
theorem g_ldcw {ix : Nat} (v : Int32) (pc' : Nat) (hd : decode (kB k) pc = .ok (.ldc_w ix, 3)) (hp : pc + 3 = pc') (hm : Cond.constant (kO k) ix v ∈ gtbl) (h : Go X d mc ms k Q pc' L (.int v :: st) M c z) : Go X d mc ms k Q pc L (st) M c z := by
  subst hp
  exact fun p e s m args below meth cd A H locs ls hF hA hB hW hS hl => lv_ldcw hF.1 hF.2.1 hF.2.2.2.2.1 (hF.2.2.2.2.2.1 _ hm) hd (h p e s m args below meth cd A H locs ls hF hA hB hW hS hl)
theorem g_ldc2 {ix : Nat} (v : Int64) (pc' : Nat) (hd : decode (kB k) pc = .ok (.ldc2_w ix, 3)) (hp : pc + 3 = pc') (hm : Cond.constantLong (kO k) ix v ∈ gtbl) (h : Go X d mc ms k Q pc' L (.long v :: st) M c z) : Go X d mc ms k Q pc L (st) M c z := by
  subst hp
  exact fun p e s m args below meth cd A H locs ls hF hA hB hW hS hl => lv_ldc2 hF.1 hF.2.1 hF.2.2.2.2.1 (hF.2.2.2.2.2.1 _ hm) hd (h p e s m args below meth cd A H locs ls hF hA hB hW hS hl)
theorem g_iload_n {q : Fin 4} {x : Int32} (j : Nat) (pc' : Nat) (hd : decode (kB k) pc = .ok (.iload_n q, 1)) (hp : pc + 1 = pc') (hj : L[j]? = some ((q : Nat), .int x)) (h : Go X d mc ms k Q pc' L (.int x :: st) M c z) : Go X d mc ms k Q pc L (st) M c z := by
  subst hp
  exact fun p e s m args below meth cd A H locs ls hF hA hB hW hS hl => lv_iload_n hF.1 hF.2.1 hd rfl (lv_at hl j hj) (h p e s m args below meth cd A H locs ls hF hA hB hW hS hl)
theorem g_iload {q : Nat} {x : Int32} (j : Nat) (pc' : Nat) (hd : decode (kB k) pc = .ok (.iload q, 2)) (hp : pc + 2 = pc') (hj : L[j]? = some (q, .int x)) (h : Go X d mc ms k Q pc' L (.int x :: st) M c z) : Go X d mc ms k Q pc L (st) M c z := by
  subst hp
  exact fun p e s m args below meth cd A H locs ls hF hA hB hW hS hl => lv_iload hF.1 hF.2.1 hd (lv_at hl j hj) (h p e s m args below meth cd A H locs ls hF hA hB hW hS hl)
theorem g_lload_n {q : Fin 4} {x : Int64} (j : Nat) (pc' : Nat) (hd : decode (kB k) pc = .ok (.lload_n q, 1)) (hp : pc + 1 = pc') (hj : L[j]? = some ((q : Nat), .long x)) (h : Go X d mc ms k Q pc' L (.long x :: st) M c z) : Go X d mc ms k Q pc L (st) M c z := by
  subst hp
  exact fun p e s m args below meth cd A H locs ls hF hA hB hW hS hl => lv_lload_n hF.1 hF.2.1 hd rfl (lv_at hl j hj) (h p e s m args below meth cd A H locs ls hF hA hB hW hS hl)
theorem g_lload {q : Nat} {x : Int64} (j : Nat) (pc' : Nat) (hd : decode (kB k) pc = .ok (.lload q, 2)) (hp : pc + 2 = pc') (hj : L[j]? = some (q, .long x)) (h : Go X d mc ms k Q pc' L (.long x :: st) M c z) : Go X d mc ms k Q pc L (st) M c z := by
  subst hp
  exact fun p e s m args below meth cd A H locs ls hF hA hB hW hS hl => lv_lload hF.1 hF.2.1 hd (lv_at hl j hj) (h p e s m args below meth cd A H locs ls hF hA hB hW hS hl)
theorem g_aload_n {q : Fin 4} {x : Nat} (j : Nat) (pc' : Nat) (hd : decode (kB k) pc = .ok (.aload_n q, 1)) (hp : pc + 1 = pc') (hj : L[j]? = some ((q : Nat), .ref x)) (h : Go X d mc ms k Q pc' L (.ref x :: st) M c z) : Go X d mc ms k Q pc L (st) M c z := by
  subst hp
  exact fun p e s m args below meth cd A H locs ls hF hA hB hW hS hl => lv_aload_n hF.1 hF.2.1 hd rfl (lv_at hl j hj) (h p e s m args below meth cd A H locs ls hF hA hB hW hS hl)
theorem g_aload {q : Nat} {x : Nat} (j : Nat) (pc' : Nat) (hd : decode (kB k) pc = .ok (.aload q, 2)) (hp : pc + 2 = pc') (hj : L[j]? = some (q, .ref x)) (h : Go X d mc ms k Q pc' L (.ref x :: st) M c z) : Go X d mc ms k Q pc L (st) M c z := by
  subst hp
  exact fun p e s m args below meth cd A H locs ls hF hA hB hW hS hl => lv_aload hF.1 hF.2.1 hd (lv_at hl j hj) (h p e s m args below meth cd A H locs ls hF hA hB hW hS hl)
theorem g_aload_nN {q : Fin 4} (j : Nat) (pc' : Nat) (hd : decode (kB k) pc = .ok (.aload_n q, 1)) (hp : pc + 1 = pc') (hj : L[j]? = some ((q : Nat), .null)) (h : Go X d mc ms k Q pc' L (.null :: st) M c z) : Go X d mc ms k Q pc L (st) M c z := by
  subst hp
  exact fun p e s m args below meth cd A H locs ls hF hA hB hW hS hl => lv_aload_nN hF.1 hF.2.1 hd rfl (lv_at hl j hj) (h p e s m args below meth cd A H locs ls hF hA hB hW hS hl)
theorem g_aloadN {q : Nat} (j : Nat) (pc' : Nat) (hd : decode (kB k) pc = .ok (.aload q, 2)) (hp : pc + 2 = pc') (hj : L[j]? = some (q, .null)) (h : Go X d mc ms k Q pc' L (.null :: st) M c z) : Go X d mc ms k Q pc L (st) M c z := by
  subst hp
  exact fun p e s m args below meth cd A H locs ls hF hA hB hW hS hl => lv_aloadN hF.1 hF.2.1 hd (lv_at hl j hj) (h p e s m args below meth cd A H locs ls hF hA hB hW hS hl)
theorem g_istore_n {q : Fin 4} {x : Int32} (pc' : Nat) (L' : List (Nat × Value)) (hd : decode (kB k) pc = .ok (.istore_n q, 1)) (hp : pc + 1 = pc') (hn : (q : Nat) < kN k) (hL : ((q : Nat), Value.int x) :: L.filter (fun r => !(r.1 == (q : Nat)) && !(r.1 + 1 == (q : Nat) && r.2.category == 2)) = L') (h : Go X d mc ms k Q pc' L' st M c z) : Go X d mc ms k Q pc L (Value.int x :: st) M c z := by
  subst hp
  exact fun p e s m args below meth cd A H locs ls hF hA hB hW hS hl => lv_istore_n hF.1 hF.2.1 hd rfl hl hn hL (fun ls' hl' => h p e s m args below meth cd A H locs ls' hF hA hB hW hS hl')
theorem g_istore {q : Nat} {x : Int32} (pc' : Nat) (L' : List (Nat × Value)) (hd : decode (kB k) pc = .ok (.istore q, 2)) (hp : pc + 2 = pc') (hn : q < kN k) (hL : (q, Value.int x) :: L.filter (fun r => !(r.1 == q) && !(r.1 + 1 == q && r.2.category == 2)) = L') (h : Go X d mc ms k Q pc' L' st M c z) : Go X d mc ms k Q pc L (Value.int x :: st) M c z := by
  subst hp
  exact fun p e s m args below meth cd A H locs ls hF hA hB hW hS hl => lv_istore hF.1 hF.2.1 hd hl hn hL (fun ls' hl' => h p e s m args below meth cd A H locs ls' hF hA hB hW hS hl')
theorem g_lstore_n {q : Fin 4} {x : Int64} (pc' : Nat) (L' : List (Nat × Value)) (hd : decode (kB k) pc = .ok (.lstore_n q, 1)) (hp : pc + 1 = pc') (hn : (q : Nat) + 1 < kN k) (hL : ((q : Nat), Value.long x) :: L.filter (fun r => !(r.1 == (q : Nat)) && (!(r.1 == (q : Nat) + 1) && !(r.1 + 1 == (q : Nat) && r.2.category == 2))) = L') (h : Go X d mc ms k Q pc' L' st M c z) : Go X d mc ms k Q pc L (Value.long x :: st) M c z := by
  subst hp
  exact fun p e s m args below meth cd A H locs ls hF hA hB hW hS hl => lv_lstore_n hF.1 hF.2.1 hd rfl hl hn hL (fun ls' hl' => h p e s m args below meth cd A H locs ls' hF hA hB hW hS hl')
theorem g_lstore {q : Nat} {x : Int64} (pc' : Nat) (L' : List (Nat × Value)) (hd : decode (kB k) pc = .ok (.lstore q, 2)) (hp : pc + 2 = pc') (hn : q + 1 < kN k) (hL : (q, Value.long x) :: L.filter (fun r => !(r.1 == q) && (!(r.1 == q + 1) && !(r.1 + 1 == q && r.2.category == 2))) = L') (h : Go X d mc ms k Q pc' L' st M c z) : Go X d mc ms k Q pc L (Value.long x :: st) M c z := by
  subst hp
  exact fun p e s m args below meth cd A H locs ls hF hA hB hW hS hl => lv_lstore hF.1 hF.2.1 hd hl hn hL (fun ls' hl' => h p e s m args below meth cd A H locs ls' hF hA hB hW hS hl')
theorem g_astore_n {q : Fin 4} {x : Nat} (pc' : Nat) (L' : List (Nat × Value)) (hd : decode (kB k) pc = .ok (.astore_n q, 1)) (hp : pc + 1 = pc') (hn : (q : Nat) < kN k) (hL : ((q : Nat), Value.ref x) :: L.filter (fun r => !(r.1 == (q : Nat)) && !(r.1 + 1 == (q : Nat) && r.2.category == 2)) = L') (h : Go X d mc ms k Q pc' L' st M c z) : Go X d mc ms k Q pc L (Value.ref x :: st) M c z := by
  subst hp
  exact fun p e s m args below meth cd A H locs ls hF hA hB hW hS hl => lv_astore_n hF.1 hF.2.1 hd rfl hl hn hL (fun ls' hl' => h p e s m args below meth cd A H locs ls' hF hA hB hW hS hl')
theorem g_astore {q : Nat} {x : Nat} (pc' : Nat) (L' : List (Nat × Value)) (hd : decode (kB k) pc = .ok (.astore q, 2)) (hp : pc + 2 = pc') (hn : q < kN k) (hL : (q, Value.ref x) :: L.filter (fun r => !(r.1 == q) && !(r.1 + 1 == q && r.2.category == 2)) = L') (h : Go X d mc ms k Q pc' L' st M c z) : Go X d mc ms k Q pc L (Value.ref x :: st) M c z := by
  subst hp
  exact fun p e s m args below meth cd A H locs ls hF hA hB hW hS hl => lv_astore hF.1 hF.2.1 hd hl hn hL (fun ls' hl' => h p e s m args below meth cd A H locs ls' hF hA hB hW hS hl')
theorem g_astore_nN {q : Fin 4} (pc' : Nat) (L' : List (Nat × Value)) (hd : decode (kB k) pc = .ok (.astore_n q, 1)) (hp : pc + 1 = pc') (hn : (q : Nat) < kN k) (hL : ((q : Nat), Value.null) :: L.filter (fun r => !(r.1 == (q : Nat)) && !(r.1 + 1 == (q : Nat) && r.2.category == 2)) = L') (h : Go X d mc ms k Q pc' L' st M c z) : Go X d mc ms k Q pc L (Value.null :: st) M c z := by
  subst hp
  exact fun p e s m args below meth cd A H locs ls hF hA hB hW hS hl => lv_astore_nN hF.1 hF.2.1 hd rfl hl hn hL (fun ls' hl' => h p e s m args below meth cd A H locs ls' hF hA hB hW hS hl')
theorem g_astoreN {q : Nat} (pc' : Nat) (L' : List (Nat × Value)) (hd : decode (kB k) pc = .ok (.astore q, 2)) (hp : pc + 2 = pc') (hn : q < kN k) (hL : (q, Value.null) :: L.filter (fun r => !(r.1 == q) && !(r.1 + 1 == q && r.2.category == 2)) = L') (h : Go X d mc ms k Q pc' L' st M c z) : Go X d mc ms k Q pc L (Value.null :: st) M c z := by
  subst hp
  exact fun p e s m args below meth cd A H locs ls hF hA hB hW hS hl => lv_astoreN hF.1 hF.2.1 hd hl hn hL (fun ls' hl' => h p e s m args below meth cd A H locs ls' hF hA hB hW hS hl')
theorem g_iinc {q : Nat} {n : Int} {x : Int32} (v : Int32) (j : Nat) (pc' : Nat) (L' : List (Nat × Value)) (hd : decode (kB k) pc = .ok (.iinc q n, 3)) (hp : pc + 3 = pc') (hj : L[j]? = some (q, .int x)) (hv : x + Int32.ofInt n = v) (hn : q < kN k) (hL : (q, Value.int v) :: L.filter (fun r => !(r.1 == q) && !(r.1 + 1 == q && r.2.category == 2)) = L') (h : Go X d mc ms k Q pc' L' st M c z) : Go X d mc ms k Q pc L st M c z := by
  subst hp
  exact fun p e s m args below meth cd A H locs ls hF hA hB hW hS hl => lv_iinc hF.1 hF.2.1 hd hl hj hv hn hL (fun ls' hl' => h p e s m args below meth cd A H locs ls' hF hA hB hW hS hl')
theorem g_sub (ks : List Nat) (L' : List (Nat × Value)) (hL : lv_pick L ks = L') (h : Go X d mc ms k Q pc L' st M c z) : Go X d mc ms k Q pc L st M c z := fun p e s m args below meth cd A H locs ls hF hA hB hW hS hl => h p e s m args below meth cd A H locs ls hF hA hB hW hS (lv_sub hl ks hL)
theorem g_if_eq {x : Int32} {off : Int} (tgt pc' : Nat) (hd : decode (kB k) pc = .ok (.ifCond .eq off, 3)) (ht : (pc : Int) + off = (tgt : Int)) (hp : pc + 3 = pc') (h1 : x = 0 → Go X d mc ms k Q tgt L st M c z) (h2 : ¬ x = 0 → Go X d mc ms k Q pc' L st M c z) : Go X d mc ms k Q pc L (.int x :: st) M c z := by
  subst hp
  exact fun p e s m args below meth cd A H locs ls hF hA hB hW hS hl => lv_if_eq hF.1 hF.2.1 hd ht (fun q => h1 q p e s m args below meth cd A H locs ls hF hA hB hW hS hl) (fun q => h2 q p e s m args below meth cd A H locs ls hF hA hB hW hS hl)
theorem g_if_ne {x : Int32} {off : Int} (tgt pc' : Nat) (hd : decode (kB k) pc = .ok (.ifCond .ne off, 3)) (ht : (pc : Int) + off = (tgt : Int)) (hp : pc + 3 = pc') (h1 : ¬ x = 0 → Go X d mc ms k Q tgt L st M c z) (h2 : x = 0 → Go X d mc ms k Q pc' L st M c z) : Go X d mc ms k Q pc L (.int x :: st) M c z := by
  subst hp
  exact fun p e s m args below meth cd A H locs ls hF hA hB hW hS hl => lv_if_ne hF.1 hF.2.1 hd ht (fun q => h1 q p e s m args below meth cd A H locs ls hF hA hB hW hS hl) (fun q => h2 q p e s m args below meth cd A H locs ls hF hA hB hW hS hl)
theorem g_if_lt {x : Int32} {off : Int} (tgt pc' : Nat) (hd : decode (kB k) pc = .ok (.ifCond .lt off, 3)) (ht : (pc : Int) + off = (tgt : Int)) (hp : pc + 3 = pc') (h1 : x < 0 → Go X d mc ms k Q tgt L st M c z) (h2 : ¬ x < 0 → Go X d mc ms k Q pc' L st M c z) : Go X d mc ms k Q pc L (.int x :: st) M c z := by
  subst hp
  exact fun p e s m args below meth cd A H locs ls hF hA hB hW hS hl => lv_if_lt hF.1 hF.2.1 hd ht (fun q => h1 q p e s m args below meth cd A H locs ls hF hA hB hW hS hl) (fun q => h2 q p e s m args below meth cd A H locs ls hF hA hB hW hS hl)
theorem g_if_ge {x : Int32} {off : Int} (tgt pc' : Nat) (hd : decode (kB k) pc = .ok (.ifCond .ge off, 3)) (ht : (pc : Int) + off = (tgt : Int)) (hp : pc + 3 = pc') (h1 : 0 ≤ x → Go X d mc ms k Q tgt L st M c z) (h2 : ¬ 0 ≤ x → Go X d mc ms k Q pc' L st M c z) : Go X d mc ms k Q pc L (.int x :: st) M c z := by
  subst hp
  exact fun p e s m args below meth cd A H locs ls hF hA hB hW hS hl => lv_if_ge hF.1 hF.2.1 hd ht (fun q => h1 q p e s m args below meth cd A H locs ls hF hA hB hW hS hl) (fun q => h2 q p e s m args below meth cd A H locs ls hF hA hB hW hS hl)
theorem g_if_gt {x : Int32} {off : Int} (tgt pc' : Nat) (hd : decode (kB k) pc = .ok (.ifCond .gt off, 3)) (ht : (pc : Int) + off = (tgt : Int)) (hp : pc + 3 = pc') (h1 : 0 < x → Go X d mc ms k Q tgt L st M c z) (h2 : ¬ 0 < x → Go X d mc ms k Q pc' L st M c z) : Go X d mc ms k Q pc L (.int x :: st) M c z := by
  subst hp
  exact fun p e s m args below meth cd A H locs ls hF hA hB hW hS hl => lv_if_gt hF.1 hF.2.1 hd ht (fun q => h1 q p e s m args below meth cd A H locs ls hF hA hB hW hS hl) (fun q => h2 q p e s m args below meth cd A H locs ls hF hA hB hW hS hl)
theorem g_if_le {x : Int32} {off : Int} (tgt pc' : Nat) (hd : decode (kB k) pc = .ok (.ifCond .le off, 3)) (ht : (pc : Int) + off = (tgt : Int)) (hp : pc + 3 = pc') (h1 : x ≤ 0 → Go X d mc ms k Q tgt L st M c z) (h2 : ¬ x ≤ 0 → Go X d mc ms k Q pc' L st M c z) : Go X d mc ms k Q pc L (.int x :: st) M c z := by
  subst hp
  exact fun p e s m args below meth cd A H locs ls hF hA hB hW hS hl => lv_if_le hF.1 hF.2.1 hd ht (fun q => h1 q p e s m args below meth cd A H locs ls hF hA hB hW hS hl) (fun q => h2 q p e s m args below meth cd A H locs ls hF hA hB hW hS hl)
theorem g_icmp_eq {x y : Int32} {off : Int} (tgt pc' : Nat) (hd : decode (kB k) pc = .ok (.if_icmp .eq off, 3)) (ht : (pc : Int) + off = (tgt : Int)) (hp : pc + 3 = pc') (h1 : x = y → Go X d mc ms k Q tgt L st M c z) (h2 : ¬ x = y → Go X d mc ms k Q pc' L st M c z) : Go X d mc ms k Q pc L (.int y :: .int x :: st) M c z := by
  subst hp
  exact fun p e s m args below meth cd A H locs ls hF hA hB hW hS hl => lv_icmp_eq hF.1 hF.2.1 hd ht (fun q => h1 q p e s m args below meth cd A H locs ls hF hA hB hW hS hl) (fun q => h2 q p e s m args below meth cd A H locs ls hF hA hB hW hS hl)
theorem g_icmp_ne {x y : Int32} {off : Int} (tgt pc' : Nat) (hd : decode (kB k) pc = .ok (.if_icmp .ne off, 3)) (ht : (pc : Int) + off = (tgt : Int)) (hp : pc + 3 = pc') (h1 : ¬ x = y → Go X d mc ms k Q tgt L st M c z) (h2 : x = y → Go X d mc ms k Q pc' L st M c z) : Go X d mc ms k Q pc L (.int y :: .int x :: st) M c z := by
  subst hp
  exact fun p e s m args below meth cd A H locs ls hF hA hB hW hS hl => lv_icmp_ne hF.1 hF.2.1 hd ht (fun q => h1 q p e s m args below meth cd A H locs ls hF hA hB hW hS hl) (fun q => h2 q p e s m args below meth cd A H locs ls hF hA hB hW hS hl)
theorem g_icmp_lt {x y : Int32} {off : Int} (tgt pc' : Nat) (hd : decode (kB k) pc = .ok (.if_icmp .lt off, 3)) (ht : (pc : Int) + off = (tgt : Int)) (hp : pc + 3 = pc') (h1 : x < y → Go X d mc ms k Q tgt L st M c z) (h2 : ¬ x < y → Go X d mc ms k Q pc' L st M c z) : Go X d mc ms k Q pc L (.int y :: .int x :: st) M c z := by
  subst hp
  exact fun p e s m args below meth cd A H locs ls hF hA hB hW hS hl => lv_icmp_lt hF.1 hF.2.1 hd ht (fun q => h1 q p e s m args below meth cd A H locs ls hF hA hB hW hS hl) (fun q => h2 q p e s m args below meth cd A H locs ls hF hA hB hW hS hl)
theorem g_icmp_ge {x y : Int32} {off : Int} (tgt pc' : Nat) (hd : decode (kB k) pc = .ok (.if_icmp .ge off, 3)) (ht : (pc : Int) + off = (tgt : Int)) (hp : pc + 3 = pc') (h1 : y ≤ x → Go X d mc ms k Q tgt L st M c z) (h2 : ¬ y ≤ x → Go X d mc ms k Q pc' L st M c z) : Go X d mc ms k Q pc L (.int y :: .int x :: st) M c z := by
  subst hp
  exact fun p e s m args below meth cd A H locs ls hF hA hB hW hS hl => lv_icmp_ge hF.1 hF.2.1 hd ht (fun q => h1 q p e s m args below meth cd A H locs ls hF hA hB hW hS hl) (fun q => h2 q p e s m args below meth cd A H locs ls hF hA hB hW hS hl)
theorem g_icmp_gt {x y : Int32} {off : Int} (tgt pc' : Nat) (hd : decode (kB k) pc = .ok (.if_icmp .gt off, 3)) (ht : (pc : Int) + off = (tgt : Int)) (hp : pc + 3 = pc') (h1 : y < x → Go X d mc ms k Q tgt L st M c z) (h2 : ¬ y < x → Go X d mc ms k Q pc' L st M c z) : Go X d mc ms k Q pc L (.int y :: .int x :: st) M c z := by
  subst hp
  exact fun p e s m args below meth cd A H locs ls hF hA hB hW hS hl => lv_icmp_gt hF.1 hF.2.1 hd ht (fun q => h1 q p e s m args below meth cd A H locs ls hF hA hB hW hS hl) (fun q => h2 q p e s m args below meth cd A H locs ls hF hA hB hW hS hl)
theorem g_icmp_le {x y : Int32} {off : Int} (tgt pc' : Nat) (hd : decode (kB k) pc = .ok (.if_icmp .le off, 3)) (ht : (pc : Int) + off = (tgt : Int)) (hp : pc + 3 = pc') (h1 : x ≤ y → Go X d mc ms k Q tgt L st M c z) (h2 : ¬ x ≤ y → Go X d mc ms k Q pc' L st M c z) : Go X d mc ms k Q pc L (.int y :: .int x :: st) M c z := by
  subst hp
  exact fun p e s m args below meth cd A H locs ls hF hA hB hW hS hl => lv_icmp_le hF.1 hF.2.1 hd ht (fun q => h1 q p e s m args below meth cd A H locs ls hF hA hB hW hS hl) (fun q => h2 q p e s m args below meth cd A H locs ls hF hA hB hW hS hl)
theorem g_goto {off : Int} (tgt : Nat) (hd : decode (kB k) pc = .ok (.goto off, 3)) (ht : (pc : Int) + off = (tgt : Int)) (h : Go X d mc ms k Q tgt L st M c z) : Go X d mc ms k Q pc L st M c z := fun p e s m args below meth cd A H locs ls hF hA hB hW hS hl => lv_goto hF.1 hF.2.1 hd ht (h p e s m args below meth cd A H locs ls hF hA hB hW hS hl)
theorem g_ifnonnull {x : Nat} {off : Int} (tgt : Nat) (hd : decode (kB k) pc = .ok (.ifnonnull off, 3)) (ht : (pc : Int) + off = (tgt : Int)) (h : Go X d mc ms k Q tgt L st M c z) : Go X d mc ms k Q pc L (.ref x :: st) M c z := fun p e s m args below meth cd A H locs ls hF hA hB hW hS hl => lv_ifnonnull hF.1 hF.2.1 hd ht (h p e s m args below meth cd A H locs ls hF hA hB hW hS hl)
theorem g_ifnonnullN {off : Int} (pc' : Nat) (hd : decode (kB k) pc = .ok (.ifnonnull off, 3)) (hp : pc + 3 = pc') (h : Go X d mc ms k Q pc' L st M c z) : Go X d mc ms k Q pc L (.null :: st) M c z := by
  subst hp
  exact fun p e s m args below meth cd A H locs ls hF hA hB hW hS hl => lv_ifnonnullN hF.1 hF.2.1 hd (h p e s m args below meth cd A H locs ls hF hA hB hW hS hl)
theorem g_ifnull {x : Nat} {off : Int} (pc' : Nat) (hd : decode (kB k) pc = .ok (.ifnull off, 3)) (hp : pc + 3 = pc') (h : Go X d mc ms k Q pc' L st M c z) : Go X d mc ms k Q pc L (.ref x :: st) M c z := by
  subst hp
  exact fun p e s m args below meth cd A H locs ls hF hA hB hW hS hl => lv_ifnull hF.1 hF.2.1 hd (h p e s m args below meth cd A H locs ls hF hA hB hW hS hl)
theorem g_ifnullN {off : Int} (tgt : Nat) (hd : decode (kB k) pc = .ok (.ifnull off, 3)) (ht : (pc : Int) + off = (tgt : Int)) (h : Go X d mc ms k Q tgt L st M c z) : Go X d mc ms k Q pc L (.null :: st) M c z := fun p e s m args below meth cd A H locs ls hF hA hB hW hS hl => lv_ifnullN hF.1 hF.2.1 hd ht (h p e s m args below meth cd A H locs ls hF hA hB hW hS hl)
theorem g_tableIn {dflt lo hi : Int} {offs : Array Int} {len : Nat} {x : Int32} {off : Int} (tgt : Nat) (hd : decode (kB k) pc = .ok (.tableswitch dflt lo hi offs, len)) (h1 : ¬ x.toInt < lo) (h2 : ¬ hi < x.toInt) (ho : offs[(x.toInt - lo).toNat]? = some off) (ht : (pc : Int) + off = (tgt : Int)) (h : Go X d mc ms k Q tgt L st M c z) : Go X d mc ms k Q pc L (.int x :: st) M c z := fun p e s m args below meth cd A H locs ls hF hA hB hW hS hl => lv_tableIn hF.1 hF.2.1 hd h1 h2 ho ht (h p e s m args below meth cd A H locs ls hF hA hB hW hS hl)
theorem g_tableOut {dflt lo hi : Int} {offs : Array Int} {len : Nat} {x : Int32} (tgt : Nat) (hd : decode (kB k) pc = .ok (.tableswitch dflt lo hi offs, len)) (h1 : x.toInt < lo ∨ hi < x.toInt) (ht : (pc : Int) + dflt = (tgt : Int)) (h : Go X d mc ms k Q tgt L st M c z) : Go X d mc ms k Q pc L (.int x :: st) M c z := fun p e s m args below meth cd A H locs ls hF hA hB hW hS hl => lv_tableOut hF.1 hF.2.1 hd h1 ht (h p e s m args below meth cd A H locs ls hF hA hB hW hS hl)
theorem g_lookup {dflt : Int} {ps : Array (Int × Int)} {len : Nat} {x : Int32} {off : Int} (tgt : Nat) (hd : decode (kB k) pc = .ok (.lookupswitch dflt ps, len)) (hp : (ps.toList.zip (ps.toList.drop 1)).all (fun (a, next) => a.1 < next.1) = true) (ho : Op.lookupswitch.offset ps.toList dflt x.toInt = off) (ht : (pc : Int) + off = (tgt : Int)) (h : Go X d mc ms k Q tgt L st M c z) : Go X d mc ms k Q pc L (.int x :: st) M c z := fun p e s m args below meth cd A H locs ls hF hA hB hW hS hl => lv_lookup hF.1 hF.2.1 hd hp ho ht (h p e s m args below meth cd A H locs ls hF hA hB hW hS hl)
end GO
