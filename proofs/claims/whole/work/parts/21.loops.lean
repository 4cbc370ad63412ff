/-! J7_fill_53178  -/
set_option maxRecDepth 4000 in
theorem sJ7_fill_53178_0 {X : gX} {d mc ms : Nat} {Q : Option Value → gM → Prop} {M : gM} {a0 n0 : Nat} {x1 : Int32} (s0 : g_kd M a0 = some (100, n0)) (h1 : Go X d mc ms kJ7_fill_53178 Q 5 [(0, .ref a0), (1, .int (x1)), (2, .int (0)), (3, .int ((Int32.ofNat n0)))] [] M 0 0) : Cn X d mc ms kJ7_fill_53178 [.ref a0, .int (x1)] M Q := by
  refine g_meth rfl rfl (Nat.le_of_ble_eq_true rfl) rfl ?_
  refine g_iconst (0) 1 dJ7_fill_53178_0 rfl rfl ?_
  refine g_istore_n 2 [(2, .int (0)), (0, .ref a0), (1, .int (x1))] dJ7_fill_53178_1 rfl (Nat.le_of_ble_eq_true rfl) rfl ?_
  refine g_aload_n 1 3 dJ7_fill_53178_2 rfl rfl ?_
  refine g_alen (t := 0) 4 dJ7_fill_53178_3 rfl s0 (by decide) rfl ?_
  refine g_istore_n 5 [(3, .int ((Int32.ofNat n0))), (2, .int (0)), (0, .ref a0), (1, .int (x1))] dJ7_fill_53178_4 rfl (Nat.le_of_ble_eq_true rfl) rfl ?_
  exact g_sub [2, 3, 1, 0] _ rfl (h1)

set_option maxRecDepth 4000 in
theorem sJ7_fill_53178_5 {X : gX} {d mc ms : Nat} {Q : Option Value → gM → Prop} {M : gM} {c z : Nat} {a0 n0 : Nat} {x1 : Int32} {x2 : Int32} {x3 : Int32} (s0 : g_kd M a0 = some (100, n0)) (h1 : (x3 ≤ x2) → Q none M) (w2 : c ≤ mc) (w3 : z ≤ ms) (b4 : (¬ x3 ≤ x2) → vp_in (x2) n0) (h5 : (¬ x3 ≤ x2) → Go X d mc ms kJ7_fill_53178 Q 5 [(0, .ref a0), (1, .int (x1)), (2, .int ((x2 + 1))), (3, .int (x3))] [] (g_wi M a0 (x2).toNatClampNeg x1) c z) : Go X d mc ms kJ7_fill_53178 Q 5 [(0, .ref a0), (1, .int (x1)), (2, .int (x2)), (3, .int (x3))] [] M c z := by
  refine g_iload_n 2 6 dJ7_fill_53178_5 rfl rfl ?_
  refine g_iload_n 3 7 dJ7_fill_53178_6 rfl rfl ?_
  refine g_icmp_ge 20 10 dJ7_fill_53178_7 rfl rfl (fun c1 => ?_) (fun c1 => ?_)
  · skip
    exact g_vret dJ7_fill_53178_20 rfl (w2) (w3) (h1 c1)
  · skip
    refine g_aload_n 0 11 dJ7_fill_53178_10 rfl rfl ?_
    refine g_iload_n 2 12 dJ7_fill_53178_11 rfl rfl ?_
    refine g_iload_n 1 13 dJ7_fill_53178_12 rfl rfl ?_
    refine h_iastore 14 (x2).toNatClampNeg dJ7_fill_53178_13 rfl rfl s0 (b4 c1) ?_
    refine g_iinc _ 2 17 [(2, .int ((x2 + 1))), (0, .ref a0), (1, .int (x1)), (3, .int (x3))] dJ7_fill_53178_14 rfl rfl rfl (Nat.le_of_ble_eq_true rfl) rfl ?_
    refine g_goto 5 dJ7_fill_53178_17 rfl ?_
    exact g_sub [1, 2, 0, 3] _ rfl (h5 c1)

def bJ7_fill_53178_0 (N : Nat) (M : gM) (a0 : Nat) (n0 : Nat) (x1 : Int32) (k : Nat → (Nat → Nat → Int32) → Nat → Nat → Int32 → Int32 → Int32 → Int32 × (Nat → Nat → Int32)) : Int32 × (Nat → Nat → Int32) := (k 0 (g_mi M) a0 n0 x1 0 (Int32.ofNat n0))
def eJ7_fill_53178_0 (N : Nat) (M : gM) (a0 : Nat) (n0 : Nat) (x1 : Int32) (k : Nat → (Nat → Nat → Int32) → Nat → Nat → Int32 → Int32 → Int32 → Prop) : Prop := (k 0 (g_mi M) a0 n0 x1 0 (Int32.ofNat n0))
def bJ7_fill_53178_5 (N : Nat) (M : gM) (f : Nat → Nat → Int32) (a0 : Nat) (n0 : Nat) (x1 : Int32) (x2 : Int32) (x3 : Int32) (k : Nat → (Nat → Nat → Int32) → Nat → Nat → Int32 → Int32 → Int32 → Int32 × (Nat → Nat → Int32)) : Int32 × (Nat → Nat → Int32) := (if x3 ≤ x2 then (0, g_mi (g_wm M f (g_ml M))) else (k 0 (g_mi (g_wi (g_wm M f (g_ml M)) a0 (x2).toNatClampNeg x1)) a0 n0 x1 (x2 + 1) x3))
def eJ7_fill_53178_5 (N : Nat) (M : gM) (f : Nat → Nat → Int32) (a0 : Nat) (n0 : Nat) (x1 : Int32) (x2 : Int32) (x3 : Int32) (k : Nat → (Nat → Nat → Int32) → Nat → Nat → Int32 → Int32 → Int32 → Prop) : Prop := ((¬ x3 ≤ x2) → vp_in (x2) n0) ∧ (if x3 ≤ x2 then True else (k 0 (g_mi (g_wi (g_wm M f (g_ml M)) a0 (x2).toNatClampNeg x1)) a0 n0 x1 (x2 + 1) x3))
def wJ7_fill_53178 (N : Nat) (M : gM) : Nat → Nat → (Nat → Nat → Int32) → Nat → Nat → Int32 → Int32 → Int32 → Int32 × (Nat → Nat → Int32)
  | 0, _, f, _, _, _, _, _ => (0, f)
  | n + 1, h, f, a0, n0, x1, x2, x3 => bJ7_fill_53178_5 N M f a0 n0 x1 x2 x3 (wJ7_fill_53178 N M n)
def vJ7_fill_53178 (N : Nat) (M : gM) : Nat → Nat → (Nat → Nat → Int32) → Nat → Nat → Int32 → Int32 → Int32 → Prop
  | 0, _, _, _, _, _, _, _ => False
  | n + 1, h, f, a0, n0, x1, x2, x3 => eJ7_fill_53178_5 N M f a0 n0 x1 x2 x3 (vJ7_fill_53178 N M n)
set_option maxRecDepth 10000 in
theorem lpJ7_fill_53178 {X : gX} {d mc ms : Nat} {Q : Option Value → gM → Prop} (N : Nat) (M : gM) : ∀ n : Nat, (∀ (f : Nat → Nat → Int32) (a0 : Nat) (n0 : Nat) (x1 : Int32) (x2 : Int32) (x3 : Int32), g_kd M a0 = some (100, n0) → vJ7_fill_53178 N M n 0 f a0 n0 x1 x2 x3 → Q none (g_wm M (wJ7_fill_53178 N M n 0 f a0 n0 x1 x2 x3).2 (g_ml M)) → Go X d mc ms kJ7_fill_53178 Q 5 [(0, .ref a0), (1, .int (x1)), (2, .int (x2)), (3, .int (x3))] [] (g_wm M f (g_ml M)) 0 0) := by
  intro n
  induction n with
  | zero => exact fun _ _ _ _ _ _ _ h _ => h.elim
  | succ n ih =>
    intro f a0 n0 x1 x2 x3 s0 hT hQ
    rw [vJ7_fill_53178] at hT
    rw [wJ7_fill_53178] at hQ
    unfold bJ7_fill_53178_5 at hQ
    unfold eJ7_fill_53178_5 at hT
    obtain ⟨b4, hT⟩ := hT
    exact sJ7_fill_53178_5 (M := (g_wm M f (g_ml M))) (Sm.k Sm.wm s0) (fun c1 => by simp only [if_pos c1] at hQ; exact Sm.q Sm.wm hQ) (Nat.zero_le _) (Nat.zero_le _) b4 (fun c1 => by simp only [if_neg c1] at hQ hT; exact Sm.g (Sm.tr Sm.wm (Sm.wi Sm.rf)) (ih _ _ _ _ _ _ (s0) hT hQ))
def mJ7_fill_53178 (N : Nat) (M : gM) (a0 : Nat) (n0 : Nat) (x1 : Int32) : gM := g_wm M (bJ7_fill_53178_0 N M a0 n0 x1 (wJ7_fill_53178 N M N)).2 (g_ml M)
theorem jJ7_fill_53178 {N : Nat} {M : gM} {a0 : Nat} {n0 : Nat} {x1 : Int32} : Sm M (mJ7_fill_53178 N M a0 n0 x1) := Sm.wm
def EJ7_fill_53178 (N : Nat) (M : gM) (a0 : Nat) (n0 : Nat) (x1 : Int32) : Prop := eJ7_fill_53178_0 N M a0 n0 x1 (vJ7_fill_53178 N M N)
theorem tJ7_fill_53178 {N : Nat} {X : gX} {d mc ms : Nat} {Q : Option Value → gM → Prop} {M : gM} {a0 : Nat} {n0 : Nat} {x1 : Int32} (s0 : g_kd M a0 = some (100, n0)) (hE : EJ7_fill_53178 N M a0 n0 x1) (hQ : Q none (mJ7_fill_53178 N M a0 n0 x1)) : Cn X d mc ms kJ7_fill_53178 [.ref a0, .int (x1)] M Q := by
  unfold mJ7_fill_53178 at hQ
  unfold bJ7_fill_53178_0 at hQ
  unfold EJ7_fill_53178 eJ7_fill_53178_0 at hE
  have hT := hE
  have ih := lpJ7_fill_53178 (X := X) (d := d) (mc := mc) (ms := ms) (Q := Q) N M N
  exact sJ7_fill_53178_0 s0 (Sm.g Sm.rf (ih _ _ _ _ _ _ (s0) hT hQ))
/-! J7_fill_d0a16  -/
set_option maxRecDepth 4000 in
theorem sJ7_fill_d0a16_0 {X : gX} {d mc ms : Nat} {Q : Option Value → gM → Prop} {M : gM} {a0 n0 : Nat} {y1 : Int64} (s0 : g_kd M a0 = some (103, n0)) (h1 : Go X d mc ms kJ7_fill_d0a16 Q 6 [(0, .ref a0), (1, .long (y1)), (3, .int (0)), (4, .int ((Int32.ofNat n0)))] [] M 0 0) : Cn X d mc ms kJ7_fill_d0a16 [.ref a0, .long (y1)] M Q := by
  refine g_meth rfl rfl (Nat.le_of_ble_eq_true rfl) rfl ?_
  refine g_iconst (0) 1 dJ7_fill_d0a16_0 rfl rfl ?_
  refine g_istore_n 2 [(3, .int (0)), (0, .ref a0), (1, .long (y1))] dJ7_fill_d0a16_1 rfl (Nat.le_of_ble_eq_true rfl) rfl ?_
  refine g_aload_n 1 3 dJ7_fill_d0a16_2 rfl rfl ?_
  refine g_alenL 4 dJ7_fill_d0a16_3 rfl s0 rfl ?_
  refine g_istore 6 [(4, .int ((Int32.ofNat n0))), (3, .int (0)), (0, .ref a0), (1, .long (y1))] dJ7_fill_d0a16_4 rfl (Nat.le_of_ble_eq_true rfl) rfl ?_
  exact g_sub [2, 3, 1, 0] _ rfl (h1)

set_option maxRecDepth 4000 in
theorem sJ7_fill_d0a16_6 {X : gX} {d mc ms : Nat} {Q : Option Value → gM → Prop} {M : gM} {c z : Nat} {a0 n0 : Nat} {y1 : Int64} {x3 : Int32} {x4 : Int32} (s0 : g_kd M a0 = some (103, n0)) (h1 : (x4 ≤ x3) → Q none M) (w2 : c ≤ mc) (w3 : z ≤ ms) (b4 : (¬ x4 ≤ x3) → vp_in (x3) n0) (h5 : (¬ x4 ≤ x3) → Go X d mc ms kJ7_fill_d0a16 Q 6 [(0, .ref a0), (1, .long (y1)), (3, .int ((x3 + 1))), (4, .int (x4))] [] (g_wl M a0 (x3).toNatClampNeg y1) c z) : Go X d mc ms kJ7_fill_d0a16 Q 6 [(0, .ref a0), (1, .long (y1)), (3, .int (x3)), (4, .int (x4))] [] M c z := by
  refine g_iload_n 2 7 dJ7_fill_d0a16_6 rfl rfl ?_
  refine g_iload 3 9 dJ7_fill_d0a16_7 rfl rfl ?_
  refine g_icmp_ge 22 12 dJ7_fill_d0a16_9 rfl rfl (fun c1 => ?_) (fun c1 => ?_)
  · skip
    exact g_vret dJ7_fill_d0a16_22 rfl (w2) (w3) (h1 c1)
  · skip
    refine g_aload_n 0 13 dJ7_fill_d0a16_12 rfl rfl ?_
    refine g_iload_n 2 14 dJ7_fill_d0a16_13 rfl rfl ?_
    refine g_lload_n 1 15 dJ7_fill_d0a16_14 rfl rfl ?_
    refine h_lastore 16 (x3).toNatClampNeg dJ7_fill_d0a16_15 rfl rfl s0 (b4 c1) ?_
    refine g_iinc _ 2 19 [(3, .int ((x3 + 1))), (0, .ref a0), (1, .long (y1)), (4, .int (x4))] dJ7_fill_d0a16_16 rfl rfl rfl (Nat.le_of_ble_eq_true rfl) rfl ?_
    refine g_goto 6 dJ7_fill_d0a16_19 rfl ?_
    exact g_sub [1, 2, 0, 3] _ rfl (h5 c1)

def bJ7_fill_d0a16_0 (N : Nat) (M : gM) (a0 : Nat) (n0 : Nat) (y1 : Int64) (k : Nat → (Nat → Nat → Int32) → (Nat → Nat → Int64) → Nat → Nat → Int64 → Int32 → Int32 → Int32 × (Nat → Nat → Int32) × (Nat → Nat → Int64)) : Int32 × (Nat → Nat → Int32) × (Nat → Nat → Int64) := (k 0 (g_mi M) (g_ml M) a0 n0 y1 0 (Int32.ofNat n0))
def eJ7_fill_d0a16_0 (N : Nat) (M : gM) (a0 : Nat) (n0 : Nat) (y1 : Int64) (k : Nat → (Nat → Nat → Int32) → (Nat → Nat → Int64) → Nat → Nat → Int64 → Int32 → Int32 → Prop) : Prop := (k 0 (g_mi M) (g_ml M) a0 n0 y1 0 (Int32.ofNat n0))
def bJ7_fill_d0a16_6 (N : Nat) (M : gM) (f : Nat → Nat → Int32) (g : Nat → Nat → Int64) (a0 : Nat) (n0 : Nat) (y1 : Int64) (x3 : Int32) (x4 : Int32) (k : Nat → (Nat → Nat → Int32) → (Nat → Nat → Int64) → Nat → Nat → Int64 → Int32 → Int32 → Int32 × (Nat → Nat → Int32) × (Nat → Nat → Int64)) : Int32 × (Nat → Nat → Int32) × (Nat → Nat → Int64) := (if x4 ≤ x3 then (0, g_mi (g_wm M f g), g_ml (g_wm M f g)) else (k 0 (g_mi (g_wl (g_wm M f g) a0 (x3).toNatClampNeg y1)) (g_ml (g_wl (g_wm M f g) a0 (x3).toNatClampNeg y1)) a0 n0 y1 (x3 + 1) x4))
def eJ7_fill_d0a16_6 (N : Nat) (M : gM) (f : Nat → Nat → Int32) (g : Nat → Nat → Int64) (a0 : Nat) (n0 : Nat) (y1 : Int64) (x3 : Int32) (x4 : Int32) (k : Nat → (Nat → Nat → Int32) → (Nat → Nat → Int64) → Nat → Nat → Int64 → Int32 → Int32 → Prop) : Prop := ((¬ x4 ≤ x3) → vp_in (x3) n0) ∧ (if x4 ≤ x3 then True else (k 0 (g_mi (g_wl (g_wm M f g) a0 (x3).toNatClampNeg y1)) (g_ml (g_wl (g_wm M f g) a0 (x3).toNatClampNeg y1)) a0 n0 y1 (x3 + 1) x4))
def wJ7_fill_d0a16 (N : Nat) (M : gM) : Nat → Nat → (Nat → Nat → Int32) → (Nat → Nat → Int64) → Nat → Nat → Int64 → Int32 → Int32 → Int32 × (Nat → Nat → Int32) × (Nat → Nat → Int64)
  | 0, _, f, g, _, _, _, _, _ => (0, f, g)
  | n + 1, h, f, g, a0, n0, y1, x3, x4 => bJ7_fill_d0a16_6 N M f g a0 n0 y1 x3 x4 (wJ7_fill_d0a16 N M n)
def vJ7_fill_d0a16 (N : Nat) (M : gM) : Nat → Nat → (Nat → Nat → Int32) → (Nat → Nat → Int64) → Nat → Nat → Int64 → Int32 → Int32 → Prop
  | 0, _, _, _, _, _, _, _, _ => False
  | n + 1, h, f, g, a0, n0, y1, x3, x4 => eJ7_fill_d0a16_6 N M f g a0 n0 y1 x3 x4 (vJ7_fill_d0a16 N M n)
set_option maxRecDepth 10000 in
theorem lpJ7_fill_d0a16 {X : gX} {d mc ms : Nat} {Q : Option Value → gM → Prop} (N : Nat) (M : gM) : ∀ n : Nat, (∀ (f : Nat → Nat → Int32) (g : Nat → Nat → Int64) (a0 : Nat) (n0 : Nat) (y1 : Int64) (x3 : Int32) (x4 : Int32), g_kd M a0 = some (103, n0) → vJ7_fill_d0a16 N M n 0 f g a0 n0 y1 x3 x4 → Q none (g_wm M (wJ7_fill_d0a16 N M n 0 f g a0 n0 y1 x3 x4).2.1 (wJ7_fill_d0a16 N M n 0 f g a0 n0 y1 x3 x4).2.2) → Go X d mc ms kJ7_fill_d0a16 Q 6 [(0, .ref a0), (1, .long (y1)), (3, .int (x3)), (4, .int (x4))] [] (g_wm M f g) 0 0) := by
  intro n
  induction n with
  | zero => exact fun _ _ _ _ _ _ _ _ h _ => h.elim
  | succ n ih =>
    intro f g a0 n0 y1 x3 x4 s0 hT hQ
    rw [vJ7_fill_d0a16] at hT
    rw [wJ7_fill_d0a16] at hQ
    unfold bJ7_fill_d0a16_6 at hQ
    unfold eJ7_fill_d0a16_6 at hT
    obtain ⟨b4, hT⟩ := hT
    exact sJ7_fill_d0a16_6 (M := (g_wm M f g)) (Sl.k Sl.wm s0) (fun c1 => by simp only [if_pos c1] at hQ; exact Sl.q Sl.wm hQ) (Nat.zero_le _) (Nat.zero_le _) b4 (fun c1 => by simp only [if_neg c1] at hQ hT; exact Sl.g (Sl.tr Sl.wm (Sl.wl Sl.rf)) (ih _ _ _ _ _ _ _ (s0) hT hQ))
def mJ7_fill_d0a16 (N : Nat) (M : gM) (a0 : Nat) (n0 : Nat) (y1 : Int64) : gM := g_wm M (bJ7_fill_d0a16_0 N M a0 n0 y1 (wJ7_fill_d0a16 N M N)).2.1 (bJ7_fill_d0a16_0 N M a0 n0 y1 (wJ7_fill_d0a16 N M N)).2.2
theorem jJ7_fill_d0a16 {N : Nat} {M : gM} {a0 : Nat} {n0 : Nat} {y1 : Int64} : Sl M (mJ7_fill_d0a16 N M a0 n0 y1) := Sl.wm
def EJ7_fill_d0a16 (N : Nat) (M : gM) (a0 : Nat) (n0 : Nat) (y1 : Int64) : Prop := eJ7_fill_d0a16_0 N M a0 n0 y1 (vJ7_fill_d0a16 N M N)
theorem tJ7_fill_d0a16 {N : Nat} {X : gX} {d mc ms : Nat} {Q : Option Value → gM → Prop} {M : gM} {a0 : Nat} {n0 : Nat} {y1 : Int64} (s0 : g_kd M a0 = some (103, n0)) (hE : EJ7_fill_d0a16 N M a0 n0 y1) (hQ : Q none (mJ7_fill_d0a16 N M a0 n0 y1)) : Cn X d mc ms kJ7_fill_d0a16 [.ref a0, .long (y1)] M Q := by
  unfold mJ7_fill_d0a16 at hQ
  unfold bJ7_fill_d0a16_0 at hQ
  unfold EJ7_fill_d0a16 eJ7_fill_d0a16_0 at hE
  have hT := hE
  have ih := lpJ7_fill_d0a16 (X := X) (d := d) (mc := mc) (ms := ms) (Q := Q) N M N
  exact sJ7_fill_d0a16_0 s0 (Sl.g Sl.rf (ih _ _ _ _ _ _ _ (s0) hT hQ))
/-! X3_lowerThan  -/
set_option maxRecDepth 4000 in
theorem sX3_lowerThan_0 {X : gX} {d mc ms : Nat} {Q : Option Value → gM → Prop} {M : gM} {a0 : Nat} {x1 : Int32} (s0 : St M a0) (h1 : Go X d mc ms kX3_lowerThan Q 4 [(0, .ref a0), (1, .int (x1)), (2, .int (0)), (3, .int (0))] [] M 0 0) : Cn X d mc ms kX3_lowerThan [.ref a0, .int (x1)] M Q := by
  refine g_meth rfl rfl (Nat.le_of_ble_eq_true rfl) rfl ?_
  refine g_iconst (0) 1 dX3_lowerThan_0 rfl rfl ?_
  refine g_istore_n 2 [(2, .int (0)), (0, .ref a0), (1, .int (x1))] dX3_lowerThan_1 rfl (Nat.le_of_ble_eq_true rfl) rfl ?_
  refine g_iconst (0) 3 dX3_lowerThan_2 rfl rfl ?_
  refine g_istore_n 4 [(3, .int (0)), (2, .int (0)), (0, .ref a0), (1, .int (x1))] dX3_lowerThan_3 rfl (Nat.le_of_ble_eq_true rfl) rfl ?_
  exact g_sub [2, 3, 1, 0] _ rfl (h1)

set_option maxRecDepth 4000 in
theorem sX3_lowerThan_4 {X : gX} {d mc ms : Nat} {Q : Option Value → gM → Prop} {M : gM} {c z : Nat} {a0 : Nat} {x1 : Int32} {x2 : Int32} {x3 : Int32} (s0 : St M a0) (h1 : ((g_mi M a0 3) ≤ x3) → Q (some (.int (x2))) M) (w2 : c ≤ mc) (w3 : z ≤ ms) (b4 : (¬ (g_mi M a0 3) ≤ x3) → vp_in (x3) 30) (h5 : (¬ (g_mi M a0 3) ≤ x3) → (x1 ≤ (g_mi M (a0 + 1) (x3).toNatClampNeg)) → Q (some (.int (x2))) M) (h6 : (¬ (g_mi M a0 3) ≤ x3) → (¬ x1 ≤ (g_mi M (a0 + 1) (x3).toNatClampNeg)) → Go X d mc ms kX3_lowerThan Q 4 [(0, .ref a0), (1, .int (x1)), (2, .int ((x2 + 1))), (3, .int ((x3 + 1)))] [] M c z) : Go X d mc ms kX3_lowerThan Q 4 [(0, .ref a0), (1, .int (x1)), (2, .int (x2)), (3, .int (x3))] [] M c z := by
  refine g_iload_n 3 5 dX3_lowerThan_4 rfl rfl ?_
  refine g_aload_n 0 6 dX3_lowerThan_5 rfl rfl ?_
  refine g_getI 9 dX3_lowerThan_6 rfl flX3_39 s0.1 ?_
  refine g_icmp_ge 31 12 dX3_lowerThan_9 rfl rfl (fun c1 => ?_) (fun c1 => ?_)
  · skip
    refine g_iload_n 2 32 dX3_lowerThan_31 rfl rfl ?_
    exact g_iret dX3_lowerThan_32 rfl (w2) (w3) (h1 c1)
  · skip
    refine g_aload_n 0 13 dX3_lowerThan_12 rfl rfl ?_
    refine g_getR 16 (a0 + 1) dX3_lowerThan_13 rfl flX3_9 s0.1 s0.2.1 ?_
    refine g_iload_n 3 17 dX3_lowerThan_16 rfl rfl ?_
    refine h_iaload 18 (x3).toNatClampNeg dX3_lowerThan_17 rfl rfl s0.2.2.1 (b4 c1) ?_
    refine g_iload_n 1 19 dX3_lowerThan_18 rfl rfl ?_
    refine g_icmp_ge 31 22 dX3_lowerThan_19 rfl rfl (fun c2 => ?_) (fun c2 => ?_)
    · skip
      refine g_iload_n 2 32 dX3_lowerThan_31 rfl rfl ?_
      exact g_iret dX3_lowerThan_32 rfl (w2) (w3) (h5 c1 c2)
    · skip
      refine g_iinc _ 2 25 [(2, .int ((x2 + 1))), (0, .ref a0), (1, .int (x1)), (3, .int (x3))] dX3_lowerThan_22 rfl rfl rfl (Nat.le_of_ble_eq_true rfl) rfl ?_
      refine g_iinc _ 3 28 [(3, .int ((x3 + 1))), (2, .int ((x2 + 1))), (0, .ref a0), (1, .int (x1))] dX3_lowerThan_25 rfl rfl rfl (Nat.le_of_ble_eq_true rfl) rfl ?_
      refine g_goto 4 dX3_lowerThan_28 rfl ?_
      exact g_sub [2, 3, 1, 0] _ rfl (h6 c1 c2)

def bX3_lowerThan_0 (N : Nat) (M : gM) (a0 : Nat) (x1 : Int32) (k : Nat → Nat → Int32 → Int32 → Int32 → Int32) : Int32 := (k 0 a0 x1 0 0)
def eX3_lowerThan_0 (N : Nat) (M : gM) (a0 : Nat) (x1 : Int32) (k : Nat → Nat → Int32 → Int32 → Int32 → Prop) : Prop := (k 0 a0 x1 0 0)
def bX3_lowerThan_4 (N : Nat) (M : gM) (a0 : Nat) (x1 : Int32) (x2 : Int32) (x3 : Int32) (k : Nat → Nat → Int32 → Int32 → Int32 → Int32) : Int32 := (if (g_mi M a0 3) ≤ x3 then x2 else (if x1 ≤ (g_mi M (a0 + 1) (x3).toNatClampNeg) then x2 else (k 0 a0 x1 (x2 + 1) (x3 + 1))))
def eX3_lowerThan_4 (N : Nat) (M : gM) (a0 : Nat) (x1 : Int32) (x2 : Int32) (x3 : Int32) (k : Nat → Nat → Int32 → Int32 → Int32 → Prop) : Prop := ((¬ (g_mi M a0 3) ≤ x3) → vp_in (x3) 30) ∧ (if (g_mi M a0 3) ≤ x3 then True else (if x1 ≤ (g_mi M (a0 + 1) (x3).toNatClampNeg) then True else (k 0 a0 x1 (x2 + 1) (x3 + 1))))
def wX3_lowerThan (N : Nat) (M : gM) : Nat → Nat → Nat → Int32 → Int32 → Int32 → Int32
  | 0, _, _, _, _, _ => 0
  | n + 1, h, a0, x1, x2, x3 => bX3_lowerThan_4 N M a0 x1 x2 x3 (wX3_lowerThan N M n)
def vX3_lowerThan (N : Nat) (M : gM) : Nat → Nat → Nat → Int32 → Int32 → Int32 → Prop
  | 0, _, _, _, _, _ => False
  | n + 1, h, a0, x1, x2, x3 => eX3_lowerThan_4 N M a0 x1 x2 x3 (vX3_lowerThan N M n)
set_option maxRecDepth 10000 in
theorem lpX3_lowerThan {X : gX} {d mc ms : Nat} {Q : Option Value → gM → Prop} (N : Nat) (M : gM) : ∀ n : Nat, (∀ (a0 : Nat) (x1 : Int32) (x2 : Int32) (x3 : Int32), St M a0 → vX3_lowerThan N M n 0 a0 x1 x2 x3 → Q (some (.int (wX3_lowerThan N M n 0 a0 x1 x2 x3))) M → Go X d mc ms kX3_lowerThan Q 4 [(0, .ref a0), (1, .int (x1)), (2, .int (x2)), (3, .int (x3))] [] M 0 0) := by
  intro n
  induction n with
  | zero => exact fun _ _ _ _ _ h _ => h.elim
  | succ n ih =>
    intro a0 x1 x2 x3 s0 hT hQ
    rw [vX3_lowerThan] at hT
    rw [wX3_lowerThan] at hQ
    unfold bX3_lowerThan_4 at hQ
    unfold eX3_lowerThan_4 at hT
    obtain ⟨b4, hT⟩ := hT
    exact sX3_lowerThan_4 (M := M) s0 (fun c1 => by simp only [if_pos c1] at hQ; exact hQ) (Nat.zero_le _) (Nat.zero_le _) b4 (fun c1 c2 => by simp only [if_neg c1, if_pos c2] at hQ; exact hQ) (fun c1 c2 => by simp only [if_neg c1, if_neg c2] at hQ hT; exact ih _ _ _ _ (s0) hT hQ)
def fX3_lowerThan (N : Nat) (M : gM) (a0 : Nat) (x1 : Int32) : Int32 := (bX3_lowerThan_0 N M a0 x1 (wX3_lowerThan N M N))
def EX3_lowerThan (N : Nat) (M : gM) (a0 : Nat) (x1 : Int32) : Prop := eX3_lowerThan_0 N M a0 x1 (vX3_lowerThan N M N)
theorem tX3_lowerThan {N : Nat} {X : gX} {d mc ms : Nat} {Q : Option Value → gM → Prop} {M : gM} {a0 : Nat} {x1 : Int32} (s0 : St M a0) (hE : EX3_lowerThan N M a0 x1) (hQ : Q (some (.int (fX3_lowerThan N M a0 x1))) M) : Cn X d mc ms kX3_lowerThan [.ref a0, .int (x1)] M Q := by
  unfold fX3_lowerThan at hQ
  unfold bX3_lowerThan_0 at hQ
  unfold EX3_lowerThan eX3_lowerThan_0 at hE
  have hT := hE
  have ih := lpX3_lowerThan (X := X) (d := d) (mc := mc) (ms := ms) (Q := Q) N M N
  exact sX3_lowerThan_0 s0 (ih _ _ _ _ (s0) hT hQ)
/-! X3_has  -/
set_option maxRecDepth 4000 in
theorem sX3_has_0 {N : Nat} {X : gX} {d mc ms : Nat} {Q : Option Value → gM → Prop} {M : gM} {a0 : Nat} {x1 : Int32} (s0 : St M a0) (b1 : EX3_lowerThan N M a0 x1) (h2 : ((g_mi M a0 3) ≤ (fX3_lowerThan N M a0 x1)) → Q (some (.int (0))) M) (b3 : (¬ (g_mi M a0 3) ≤ (fX3_lowerThan N M a0 x1)) → vp_in ((fX3_lowerThan N M a0 x1)) 30) (h4 : (¬ (g_mi M a0 3) ≤ (fX3_lowerThan N M a0 x1)) → (¬ (g_mi M (a0 + 1) ((fX3_lowerThan N M a0 x1)).toNatClampNeg) = x1) → Q (some (.int (0))) M) (h5 : (¬ (g_mi M a0 3) ≤ (fX3_lowerThan N M a0 x1)) → ((g_mi M (a0 + 1) ((fX3_lowerThan N M a0 x1)).toNatClampNeg) = x1) → Q (some (.int (1))) M) : Cn X (d + 1) mc ms kX3_has [.ref a0, .int (x1)] M Q := by
  refine g_meth rfl rfl (Nat.le_of_ble_eq_true rfl) rfl ?_
  refine g_aload_n 0 1 dX3_has_0 rfl rfl ?_
  refine g_iload_n 1 2 dX3_has_1 rfl rfl ?_
  refine g_callV (mc1 := 0) (ms1 := 0) (b := a0) (rest := []) (av := [.int (x1)]) kX3_lowerThan 5 dX3_has_2 rfl rfl mbX3_45 imX3_lowerThan seX3_lowerThan gcl3.1 s0.1 (Nat.le_of_ble_eq_true rfl) (Nat.zero_le _) (Nat.zero_le _) (tX3_lowerThan (N := N) s0 (b1) ?_)
  show Go X (d + 1) mc ms kX3_has Q 5 [(0, .ref a0), (1, .int (x1))] [.int ((fX3_lowerThan N M a0 x1))] M 0 0
  refine g_istore_n 6 [(2, .int ((fX3_lowerThan N M a0 x1))), (0, .ref a0), (1, .int (x1))] dX3_has_5 rfl (Nat.le_of_ble_eq_true rfl) rfl ?_
  refine g_iload_n 0 7 dX3_has_6 rfl rfl ?_
  refine g_aload_n 1 8 dX3_has_7 rfl rfl ?_
  refine g_getI 11 dX3_has_8 rfl flX3_39 s0.1 ?_
  refine g_icmp_ge 28 14 dX3_has_11 rfl rfl (fun c1 => ?_) (fun c1 => ?_)
  · skip
    refine g_iconst (0) 29 dX3_has_28 rfl rfl ?_
    exact g_zret dX3_has_29 rfl (by decide) (Nat.zero_le _) (Nat.zero_le _) (h2 c1)
  · skip
    refine g_aload_n 1 15 dX3_has_14 rfl rfl ?_
    refine g_getR 18 (a0 + 1) dX3_has_15 rfl flX3_9 s0.1 s0.2.1 ?_
    refine g_iload_n 0 19 dX3_has_18 rfl rfl ?_
    refine h_iaload 20 ((fX3_lowerThan N M a0 x1)).toNatClampNeg dX3_has_19 rfl rfl s0.2.2.1 (b3 c1) ?_
    refine g_iload_n 2 21 dX3_has_20 rfl rfl ?_
    refine g_icmp_ne 28 24 dX3_has_21 rfl rfl (fun c2 => ?_) (fun c2 => ?_)
    · skip
      refine g_iconst (0) 29 dX3_has_28 rfl rfl ?_
      exact g_zret dX3_has_29 rfl (by decide) (Nat.zero_le _) (Nat.zero_le _) (h4 c1 c2)
    · skip
      refine g_iconst (1) 25 dX3_has_24 rfl rfl ?_
      refine g_goto 29 dX3_has_25 rfl ?_
      exact g_zret dX3_has_29 rfl (by decide) (Nat.zero_le _) (Nat.zero_le _) (h5 c1 c2)

def fX3_has (N : Nat) (M : gM) (a0 : Nat) (x1 : Int32) : Int32 := (if (g_mi M a0 3) ≤ (fX3_lowerThan N M a0 x1) then 0 else (if (g_mi M (a0 + 1) ((fX3_lowerThan N M a0 x1)).toNatClampNeg) = x1 then 1 else 0))
def EX3_has (N : Nat) (M : gM) (a0 : Nat) (x1 : Int32) : Prop := (EX3_lowerThan N M a0 x1) ∧ ((¬ (g_mi M a0 3) ≤ (fX3_lowerThan N M a0 x1)) → vp_in ((fX3_lowerThan N M a0 x1)) 30)
theorem tX3_has {N : Nat} {X : gX} {d mc ms : Nat} {Q : Option Value → gM → Prop} {M : gM} {a0 : Nat} {x1 : Int32} (s0 : St M a0) (hE : EX3_has N M a0 x1) (hQ : Q (some (.int (fX3_has N M a0 x1))) M) : Cn X (d + 1) mc ms kX3_has [.ref a0, .int (x1)] M Q := by
  unfold fX3_has at hQ
  obtain ⟨b1, b3⟩ := hE
  exact sX3_has_0 s0 b1 (fun c1 => by simp only [if_pos c1] at hQ; exact hQ) b3 (fun c1 c2 => by simp only [if_neg c1, if_neg c2] at hQ; exact hQ) (fun c1 c2 => by simp only [if_neg c1, if_pos c2] at hQ; exact hQ)
/-! X3_insert  -/
set_option maxRecDepth 4000 in
theorem sX3_insert_0 {N : Nat} {X : gX} {d mc ms : Nat} {Q : Option Value → gM → Prop} {M : gM} {a0 : Nat} {x1 : Int32} (s0 : St M a0) (b1 : EX3_lowerThan N M a0 x1) (h2 : ((g_mi M a0 3) < 30) → Go X (d + 1) mc ms kX3_insert Q 21 [(0, .ref a0), (1, .int (x1)), (2, .int ((fX3_lowerThan N M a0 x1))), (3, .int ((g_mi M a0 3)))] [] M 0 0) (h3 : (¬ (g_mi M a0 3) < 30) → Q none M) : Cn X (d + 1) mc ms kX3_insert [.ref a0, .int (x1)] M Q := by
  refine g_meth rfl rfl (Nat.le_of_ble_eq_true rfl) rfl ?_
  refine g_aload_n 0 1 dX3_insert_0 rfl rfl ?_
  refine g_iload_n 1 2 dX3_insert_1 rfl rfl ?_
  refine g_callV (mc1 := 0) (ms1 := 0) (b := a0) (rest := []) (av := [.int (x1)]) kX3_lowerThan 5 dX3_insert_2 rfl rfl mbX3_45 imX3_lowerThan seX3_lowerThan gcl3.1 s0.1 (Nat.le_of_ble_eq_true rfl) (Nat.zero_le _) (Nat.zero_le _) (tX3_lowerThan (N := N) s0 (b1) ?_)
  show Go X (d + 1) mc ms kX3_insert Q 5 [(0, .ref a0), (1, .int (x1))] [.int ((fX3_lowerThan N M a0 x1))] M 0 0
  refine g_istore_n 6 [(2, .int ((fX3_lowerThan N M a0 x1))), (0, .ref a0), (1, .int (x1))] dX3_insert_5 rfl (Nat.le_of_ble_eq_true rfl) rfl ?_
  refine g_aload_n 1 7 dX3_insert_6 rfl rfl ?_
  refine g_getI 10 dX3_insert_7 rfl flX3_39 s0.1 ?_
  refine g_bipush (30) 12 dX3_insert_10 rfl rfl ?_
  refine g_icmp_lt 16 15 dX3_insert_12 rfl rfl (fun c1 => ?_) (fun c1 => ?_)
  · skip
    refine g_aload_n 1 17 dX3_insert_16 rfl rfl ?_
    refine g_getI 20 dX3_insert_17 rfl flX3_39 s0.1 ?_
    refine g_istore_n 21 [(3, .int ((g_mi M a0 3))), (2, .int ((fX3_lowerThan N M a0 x1))), (0, .ref a0), (1, .int (x1))] dX3_insert_20 rfl (Nat.le_of_ble_eq_true rfl) rfl ?_
    exact g_sub [2, 3, 1, 0] _ rfl (h2 c1)
  · skip
    exact g_vret dX3_insert_15 rfl (Nat.zero_le _) (Nat.zero_le _) (h3 c1)

set_option maxRecDepth 4000 in
theorem sX3_insert_21 {X : gX} {d mc ms : Nat} {Q : Option Value → gM → Prop} {M : gM} {c z : Nat} {a0 : Nat} {x1 : Int32} {x2 : Int32} {x3 : Int32} (s0 : St M a0) (b1 : (x3 ≤ x2) → vp_in (x2) 30) (h2 : (x3 ≤ x2) → Q none (g_wi (g_wi M (a0 + 1) (x2).toNatClampNeg x1) a0 3 ((g_mi (g_wi M (a0 + 1) (x2).toNatClampNeg x1) a0 3) + 1))) (w3 : c ≤ mc) (w4 : z ≤ ms) (b5 : (¬ x3 ≤ x2) → vp_in ((x3 - 1)) 30) (b6 : (¬ x3 ≤ x2) → vp_in (x3) 30) (h7 : (¬ x3 ≤ x2) → Go X (d + 1) mc ms kX3_insert Q 21 [(0, .ref a0), (1, .int (x1)), (2, .int (x2)), (3, .int ((x3 + (-1))))] [] (g_wi M (a0 + 1) (x3).toNatClampNeg (g_mi M (a0 + 1) ((x3 - 1)).toNatClampNeg)) c z) : Go X (d + 1) mc ms kX3_insert Q 21 [(0, .ref a0), (1, .int (x1)), (2, .int (x2)), (3, .int (x3))] [] M c z := by
  refine g_iload_n 3 22 dX3_insert_21 rfl rfl ?_
  refine g_iload_n 2 23 dX3_insert_22 rfl rfl ?_
  refine g_icmp_le 46 26 dX3_insert_23 rfl rfl (fun c1 => ?_) (fun c1 => ?_)
  · skip
    refine g_aload_n 0 47 dX3_insert_46 rfl rfl ?_
    refine g_getR 50 (a0 + 1) dX3_insert_47 rfl flX3_9 s0.1 s0.2.1 ?_
    refine g_iload_n 2 51 dX3_insert_50 rfl rfl ?_
    refine g_iload_n 1 52 dX3_insert_51 rfl rfl ?_
    refine h_iastore 53 (x2).toNatClampNeg dX3_insert_52 rfl rfl s0.2.2.1 (b1 c1) ?_
    refine g_aload_n 0 54 dX3_insert_53 rfl rfl ?_
    refine g_dup 55 dX3_insert_54 rfl rfl ?_
    refine g_getI 58 dX3_insert_55 rfl flX3_39 (Sm.k (Sm.wi Sm.rf) s0.1) ?_
    refine g_iconst (1) 59 dX3_insert_58 rfl rfl ?_
    refine g_iadd 60 dX3_insert_59 rfl ?_
    refine g_putI 63 dX3_insert_60 rfl flX3_39 (Sm.k (Sm.wi Sm.rf) s0.1) ?_
    exact g_vret dX3_insert_63 rfl (w3) (w4) (h2 c1)
  · skip
    refine g_aload_n 0 27 dX3_insert_26 rfl rfl ?_
    refine g_getR 30 (a0 + 1) dX3_insert_27 rfl flX3_9 s0.1 s0.2.1 ?_
    refine g_iload_n 3 31 dX3_insert_30 rfl rfl ?_
    refine g_aload_n 0 32 dX3_insert_31 rfl rfl ?_
    refine g_getR 35 (a0 + 1) dX3_insert_32 rfl flX3_9 s0.1 s0.2.1 ?_
    refine g_iload_n 3 36 dX3_insert_35 rfl rfl ?_
    refine g_iconst (1) 37 dX3_insert_36 rfl rfl ?_
    refine g_isub 38 dX3_insert_37 rfl ?_
    refine h_iaload 39 ((x3 - 1)).toNatClampNeg dX3_insert_38 rfl rfl s0.2.2.1 (b5 c1) ?_
    refine h_iastore 40 (x3).toNatClampNeg dX3_insert_39 rfl rfl s0.2.2.1 (b6 c1) ?_
    refine g_iinc _ 3 43 [(3, .int ((x3 + (-1)))), (0, .ref a0), (1, .int (x1)), (2, .int (x2))] dX3_insert_40 rfl rfl rfl (Nat.le_of_ble_eq_true rfl) rfl ?_
    refine g_goto 21 dX3_insert_43 rfl ?_
    exact g_sub [1, 2, 3, 0] _ rfl (h7 c1)

def bX3_insert_0 (N : Nat) (M : gM) (a0 : Nat) (x1 : Int32) (k : Nat → (Nat → Nat → Int32) → Nat → Int32 → Int32 → Int32 → Int32 × (Nat → Nat → Int32)) : Int32 × (Nat → Nat → Int32) := (if (g_mi M a0 3) < 30 then (k 0 (g_mi M) a0 x1 (fX3_lowerThan N M a0 x1) (g_mi M a0 3)) else (0, g_mi M))
def eX3_insert_0 (N : Nat) (M : gM) (a0 : Nat) (x1 : Int32) (k : Nat → (Nat → Nat → Int32) → Nat → Int32 → Int32 → Int32 → Prop) : Prop := (EX3_lowerThan N M a0 x1) ∧ (if (g_mi M a0 3) < 30 then (k 0 (g_mi M) a0 x1 (fX3_lowerThan N M a0 x1) (g_mi M a0 3)) else True)
def bX3_insert_21 (N : Nat) (M : gM) (f : Nat → Nat → Int32) (a0 : Nat) (x1 : Int32) (x2 : Int32) (x3 : Int32) (k : Nat → (Nat → Nat → Int32) → Nat → Int32 → Int32 → Int32 → Int32 × (Nat → Nat → Int32)) : Int32 × (Nat → Nat → Int32) := (if x3 ≤ x2 then (0, g_mi (g_wi (g_wi (g_wm M f (g_ml M)) (a0 + 1) (x2).toNatClampNeg x1) a0 3 ((g_mi (g_wi (g_wm M f (g_ml M)) (a0 + 1) (x2).toNatClampNeg x1) a0 3) + 1))) else (k 0 (g_mi (g_wi (g_wm M f (g_ml M)) (a0 + 1) (x3).toNatClampNeg (g_mi (g_wm M f (g_ml M)) (a0 + 1) ((x3 - 1)).toNatClampNeg))) a0 x1 x2 (x3 + (-1))))
def eX3_insert_21 (N : Nat) (M : gM) (f : Nat → Nat → Int32) (a0 : Nat) (x1 : Int32) (x2 : Int32) (x3 : Int32) (k : Nat → (Nat → Nat → Int32) → Nat → Int32 → Int32 → Int32 → Prop) : Prop := ((x3 ≤ x2) → vp_in (x2) 30) ∧ ((¬ x3 ≤ x2) → vp_in ((x3 - 1)) 30) ∧ ((¬ x3 ≤ x2) → vp_in (x3) 30) ∧ (if x3 ≤ x2 then True else (k 0 (g_mi (g_wi (g_wm M f (g_ml M)) (a0 + 1) (x3).toNatClampNeg (g_mi (g_wm M f (g_ml M)) (a0 + 1) ((x3 - 1)).toNatClampNeg))) a0 x1 x2 (x3 + (-1))))
def wX3_insert (N : Nat) (M : gM) : Nat → Nat → (Nat → Nat → Int32) → Nat → Int32 → Int32 → Int32 → Int32 × (Nat → Nat → Int32)
  | 0, _, f, _, _, _, _ => (0, f)
  | n + 1, h, f, a0, x1, x2, x3 => bX3_insert_21 N M f a0 x1 x2 x3 (wX3_insert N M n)
def vX3_insert (N : Nat) (M : gM) : Nat → Nat → (Nat → Nat → Int32) → Nat → Int32 → Int32 → Int32 → Prop
  | 0, _, _, _, _, _, _ => False
  | n + 1, h, f, a0, x1, x2, x3 => eX3_insert_21 N M f a0 x1 x2 x3 (vX3_insert N M n)
set_option maxRecDepth 10000 in
theorem lpX3_insert {X : gX} {d mc ms : Nat} {Q : Option Value → gM → Prop} (N : Nat) (M : gM) : ∀ n : Nat, (∀ (f : Nat → Nat → Int32) (a0 : Nat) (x1 : Int32) (x2 : Int32) (x3 : Int32), St M a0 → vX3_insert N M n 0 f a0 x1 x2 x3 → Q none (g_wm M (wX3_insert N M n 0 f a0 x1 x2 x3).2 (g_ml M)) → Go X (d + 1) mc ms kX3_insert Q 21 [(0, .ref a0), (1, .int (x1)), (2, .int (x2)), (3, .int (x3))] [] (g_wm M f (g_ml M)) 0 0) := by
  intro n
  induction n with
  | zero => exact fun _ _ _ _ _ _ h _ => h.elim
  | succ n ih =>
    intro f a0 x1 x2 x3 s0 hT hQ
    rw [vX3_insert] at hT
    rw [wX3_insert] at hQ
    unfold bX3_insert_21 at hQ
    unfold eX3_insert_21 at hT
    obtain ⟨b1, b5, b6, hT⟩ := hT
    exact sX3_insert_21 (M := (g_wm M f (g_ml M))) (St.sm Sm.wm s0) b1 (fun c1 => by simp only [if_pos c1] at hQ; exact Sm.q (Sm.tr Sm.wm (Sm.wi (Sm.wi Sm.rf))) hQ) (Nat.zero_le _) (Nat.zero_le _) b5 b6 (fun c1 => by simp only [if_neg c1] at hQ hT; exact Sm.g (Sm.tr Sm.wm (Sm.wi Sm.rf)) (ih _ _ _ _ _ (s0) hT hQ))
def mX3_insert (N : Nat) (M : gM) (a0 : Nat) (x1 : Int32) : gM := g_wm M (bX3_insert_0 N M a0 x1 (wX3_insert N M N)).2 (g_ml M)
theorem jX3_insert {N : Nat} {M : gM} {a0 : Nat} {x1 : Int32} : Sm M (mX3_insert N M a0 x1) := Sm.wm
def EX3_insert (N : Nat) (M : gM) (a0 : Nat) (x1 : Int32) : Prop := eX3_insert_0 N M a0 x1 (vX3_insert N M N)
theorem tX3_insert {N : Nat} {X : gX} {d mc ms : Nat} {Q : Option Value → gM → Prop} {M : gM} {a0 : Nat} {x1 : Int32} (s0 : St M a0) (hE : EX3_insert N M a0 x1) (hQ : Q none (mX3_insert N M a0 x1)) : Cn X (d + 1) mc ms kX3_insert [.ref a0, .int (x1)] M Q := by
  unfold mX3_insert at hQ
  unfold bX3_insert_0 at hQ
  unfold EX3_insert eX3_insert_0 at hE
  obtain ⟨b1, hT⟩ := hE
  have ih := lpX3_insert (X := X) (d := d) (mc := mc) (ms := ms) (Q := Q) N M N
  exact sX3_insert_0 s0 b1 (fun c1 => by simp only [if_pos c1] at hQ hT; exact Sm.g Sm.rf (ih _ _ _ _ _ (s0) hT hQ)) (fun c1 => by simp only [if_neg c1] at hQ; exact Sm.q Sm.rf hQ)
/-! X3_remove  -/
set_option maxRecDepth 4000 in
theorem sX3_remove_0 {N : Nat} {X : gX} {d mc ms : Nat} {Q : Option Value → gM → Prop} {M : gM} {a0 : Nat} {x1 : Int32} (s0 : St M a0) (b1 : EX3_has N M a0 x1) (b2 : (¬ (fX3_has N M a0 x1) = 0) → EX3_lowerThan N M a0 x1) (h3 : (¬ (fX3_has N M a0 x1) = 0) → Go X (d + 2) mc ms kX3_remove Q 15 [(0, .ref a0), (2, .int ((fX3_lowerThan N M a0 x1)))] [] M 0 0) (h4 : ((fX3_has N M a0 x1) = 0) → Q none M) : Cn X (d + 2) mc ms kX3_remove [.ref a0, .int (x1)] M Q := by
  refine g_meth rfl rfl (Nat.le_of_ble_eq_true rfl) rfl ?_
  refine g_aload_n 0 1 dX3_remove_0 rfl rfl ?_
  refine g_iload_n 1 2 dX3_remove_1 rfl rfl ?_
  refine g_callV (mc1 := 0) (ms1 := 0) (b := a0) (rest := []) (av := [.int (x1)]) kX3_has 5 dX3_remove_2 rfl rfl mbX3_49 imX3_has seX3_has gcl3.1 s0.1 (Nat.le_of_ble_eq_true rfl) (Nat.zero_le _) (Nat.zero_le _) (tX3_has (N := N) s0 (b1) ?_)
  show Go X (d + 2) mc ms kX3_remove Q 5 [(0, .ref a0), (1, .int (x1))] [.int ((fX3_has N M a0 x1))] M 0 0
  refine g_if_ne 9 8 dX3_remove_5 rfl rfl (fun c1 => ?_) (fun c1 => ?_)
  · skip
    refine g_aload_n 0 10 dX3_remove_9 rfl rfl ?_
    refine g_iload_n 1 11 dX3_remove_10 rfl rfl ?_
    refine g_callV (mc1 := 0) (ms1 := 0) (b := a0) (rest := []) (av := [.int (x1)]) kX3_lowerThan 14 dX3_remove_11 rfl rfl mbX3_45 imX3_lowerThan seX3_lowerThan gcl3.1 s0.1 (Nat.le_of_ble_eq_true rfl) (Nat.zero_le _) (Nat.zero_le _) (tX3_lowerThan (N := N) s0 (b2 c1) ?_)
    show Go X (d + 2) mc ms kX3_remove Q 14 [(0, .ref a0), (1, .int (x1))] [.int ((fX3_lowerThan N M a0 x1))] M 0 0
    refine g_istore_n 15 [(2, .int ((fX3_lowerThan N M a0 x1))), (0, .ref a0), (1, .int (x1))] dX3_remove_14 rfl (Nat.le_of_ble_eq_true rfl) rfl ?_
    exact g_sub [1, 0] _ rfl (h3 c1)
  · skip
    exact g_vret dX3_remove_8 rfl (Nat.zero_le _) (Nat.zero_le _) (h4 c1)

set_option maxRecDepth 4000 in
theorem sX3_remove_15 {X : gX} {d mc ms : Nat} {Q : Option Value → gM → Prop} {M : gM} {c z : Nat} {a0 : Nat} {x2 : Int32} (s0 : St M a0) (h1 : ((g_mi M a0 3) ≤ (x2 + 1)) → Q none (g_wi M a0 3 ((g_mi M a0 3) - 1))) (w2 : c ≤ mc) (w3 : z ≤ ms) (b4 : (¬ (g_mi M a0 3) ≤ (x2 + 1)) → vp_in ((x2 + 1)) 30) (b5 : (¬ (g_mi M a0 3) ≤ (x2 + 1)) → vp_in (x2) 30) (h6 : (¬ (g_mi M a0 3) ≤ (x2 + 1)) → Go X (d + 2) mc ms kX3_remove Q 15 [(0, .ref a0), (2, .int ((x2 + 1)))] [] (g_wi M (a0 + 1) (x2).toNatClampNeg (g_mi M (a0 + 1) ((x2 + 1)).toNatClampNeg)) c z) : Go X (d + 2) mc ms kX3_remove Q 15 [(0, .ref a0), (2, .int (x2))] [] M c z := by
  refine g_iload_n 1 16 dX3_remove_15 rfl rfl ?_
  refine g_iconst (1) 17 dX3_remove_16 rfl rfl ?_
  refine g_iadd 18 dX3_remove_17 rfl ?_
  refine g_aload_n 0 19 dX3_remove_18 rfl rfl ?_
  refine g_getI 22 dX3_remove_19 rfl flX3_39 s0.1 ?_
  refine g_icmp_ge 45 25 dX3_remove_22 rfl rfl (fun c1 => ?_) (fun c1 => ?_)
  · skip
    refine g_aload_n 0 46 dX3_remove_45 rfl rfl ?_
    refine g_dup 47 dX3_remove_46 rfl rfl ?_
    refine g_getI 50 dX3_remove_47 rfl flX3_39 s0.1 ?_
    refine g_iconst (1) 51 dX3_remove_50 rfl rfl ?_
    refine g_isub 52 dX3_remove_51 rfl ?_
    refine g_putI 55 dX3_remove_52 rfl flX3_39 s0.1 ?_
    exact g_vret dX3_remove_55 rfl (w2) (w3) (h1 c1)
  · skip
    refine g_aload_n 0 26 dX3_remove_25 rfl rfl ?_
    refine g_getR 29 (a0 + 1) dX3_remove_26 rfl flX3_9 s0.1 s0.2.1 ?_
    refine g_iload_n 1 30 dX3_remove_29 rfl rfl ?_
    refine g_aload_n 0 31 dX3_remove_30 rfl rfl ?_
    refine g_getR 34 (a0 + 1) dX3_remove_31 rfl flX3_9 s0.1 s0.2.1 ?_
    refine g_iload_n 1 35 dX3_remove_34 rfl rfl ?_
    refine g_iconst (1) 36 dX3_remove_35 rfl rfl ?_
    refine g_iadd 37 dX3_remove_36 rfl ?_
    refine h_iaload 38 ((x2 + 1)).toNatClampNeg dX3_remove_37 rfl rfl s0.2.2.1 (b4 c1) ?_
    refine h_iastore 39 (x2).toNatClampNeg dX3_remove_38 rfl rfl s0.2.2.1 (b5 c1) ?_
    refine g_iinc _ 1 42 [(2, .int ((x2 + 1))), (0, .ref a0)] dX3_remove_39 rfl rfl rfl (Nat.le_of_ble_eq_true rfl) rfl ?_
    refine g_goto 15 dX3_remove_42 rfl ?_
    exact g_sub [1, 0] _ rfl (h6 c1)

def bX3_remove_0 (N : Nat) (M : gM) (a0 : Nat) (x1 : Int32) (k : Nat → (Nat → Nat → Int32) → Nat → Int32 → Int32 × (Nat → Nat → Int32)) : Int32 × (Nat → Nat → Int32) := (if (fX3_has N M a0 x1) = 0 then (0, g_mi M) else (k 0 (g_mi M) a0 (fX3_lowerThan N M a0 x1)))
def eX3_remove_0 (N : Nat) (M : gM) (a0 : Nat) (x1 : Int32) (k : Nat → (Nat → Nat → Int32) → Nat → Int32 → Prop) : Prop := (EX3_has N M a0 x1) ∧ ((¬ (fX3_has N M a0 x1) = 0) → EX3_lowerThan N M a0 x1) ∧ (if (fX3_has N M a0 x1) = 0 then True else (k 0 (g_mi M) a0 (fX3_lowerThan N M a0 x1)))
def bX3_remove_15 (N : Nat) (M : gM) (f : Nat → Nat → Int32) (a0 : Nat) (x2 : Int32) (k : Nat → (Nat → Nat → Int32) → Nat → Int32 → Int32 × (Nat → Nat → Int32)) : Int32 × (Nat → Nat → Int32) := (if (g_mi (g_wm M f (g_ml M)) a0 3) ≤ (x2 + 1) then (0, g_mi (g_wi (g_wm M f (g_ml M)) a0 3 ((g_mi (g_wm M f (g_ml M)) a0 3) - 1))) else (k 0 (g_mi (g_wi (g_wm M f (g_ml M)) (a0 + 1) (x2).toNatClampNeg (g_mi (g_wm M f (g_ml M)) (a0 + 1) ((x2 + 1)).toNatClampNeg))) a0 (x2 + 1)))
def eX3_remove_15 (N : Nat) (M : gM) (f : Nat → Nat → Int32) (a0 : Nat) (x2 : Int32) (k : Nat → (Nat → Nat → Int32) → Nat → Int32 → Prop) : Prop := ((¬ (g_mi (g_wm M f (g_ml M)) a0 3) ≤ (x2 + 1)) → vp_in ((x2 + 1)) 30) ∧ ((¬ (g_mi (g_wm M f (g_ml M)) a0 3) ≤ (x2 + 1)) → vp_in (x2) 30) ∧ (if (g_mi (g_wm M f (g_ml M)) a0 3) ≤ (x2 + 1) then True else (k 0 (g_mi (g_wi (g_wm M f (g_ml M)) (a0 + 1) (x2).toNatClampNeg (g_mi (g_wm M f (g_ml M)) (a0 + 1) ((x2 + 1)).toNatClampNeg))) a0 (x2 + 1)))
def wX3_remove (N : Nat) (M : gM) : Nat → Nat → (Nat → Nat → Int32) → Nat → Int32 → Int32 × (Nat → Nat → Int32)
  | 0, _, f, _, _ => (0, f)
  | n + 1, h, f, a0, x2 => bX3_remove_15 N M f a0 x2 (wX3_remove N M n)
def vX3_remove (N : Nat) (M : gM) : Nat → Nat → (Nat → Nat → Int32) → Nat → Int32 → Prop
  | 0, _, _, _, _ => False
  | n + 1, h, f, a0, x2 => eX3_remove_15 N M f a0 x2 (vX3_remove N M n)
set_option maxRecDepth 10000 in
theorem lpX3_remove {X : gX} {d mc ms : Nat} {Q : Option Value → gM → Prop} (N : Nat) (M : gM) : ∀ n : Nat, (∀ (f : Nat → Nat → Int32) (a0 : Nat) (x2 : Int32), St M a0 → vX3_remove N M n 0 f a0 x2 → Q none (g_wm M (wX3_remove N M n 0 f a0 x2).2 (g_ml M)) → Go X (d + 2) mc ms kX3_remove Q 15 [(0, .ref a0), (2, .int (x2))] [] (g_wm M f (g_ml M)) 0 0) := by
  intro n
  induction n with
  | zero => exact fun _ _ _ _ h _ => h.elim
  | succ n ih =>
    intro f a0 x2 s0 hT hQ
    rw [vX3_remove] at hT
    rw [wX3_remove] at hQ
    unfold bX3_remove_15 at hQ
    unfold eX3_remove_15 at hT
    obtain ⟨b4, b5, hT⟩ := hT
    exact sX3_remove_15 (M := (g_wm M f (g_ml M))) (St.sm Sm.wm s0) (fun c1 => by simp only [if_pos c1] at hQ; exact Sm.q (Sm.tr Sm.wm (Sm.wi Sm.rf)) hQ) (Nat.zero_le _) (Nat.zero_le _) b4 b5 (fun c1 => by simp only [if_neg c1] at hQ hT; exact Sm.g (Sm.tr Sm.wm (Sm.wi Sm.rf)) (ih _ _ _ (s0) hT hQ))
def mX3_remove (N : Nat) (M : gM) (a0 : Nat) (x1 : Int32) : gM := g_wm M (bX3_remove_0 N M a0 x1 (wX3_remove N M N)).2 (g_ml M)
theorem jX3_remove {N : Nat} {M : gM} {a0 : Nat} {x1 : Int32} : Sm M (mX3_remove N M a0 x1) := Sm.wm
def EX3_remove (N : Nat) (M : gM) (a0 : Nat) (x1 : Int32) : Prop := eX3_remove_0 N M a0 x1 (vX3_remove N M N)
theorem tX3_remove {N : Nat} {X : gX} {d mc ms : Nat} {Q : Option Value → gM → Prop} {M : gM} {a0 : Nat} {x1 : Int32} (s0 : St M a0) (hE : EX3_remove N M a0 x1) (hQ : Q none (mX3_remove N M a0 x1)) : Cn X (d + 2) mc ms kX3_remove [.ref a0, .int (x1)] M Q := by
  unfold mX3_remove at hQ
  unfold bX3_remove_0 at hQ
  unfold EX3_remove eX3_remove_0 at hE
  obtain ⟨b1, b2, hT⟩ := hE
  have ih := lpX3_remove (X := X) (d := d) (mc := mc) (ms := ms) (Q := Q) N M N
  exact sX3_remove_0 s0 b1 b2 (fun c1 => by simp only [if_neg c1] at hQ hT; exact Sm.g Sm.rf (ih _ _ _ (s0) hT hQ)) (fun c1 => by simp only [if_pos c1] at hQ; exact Sm.q Sm.rf hQ)
/-! X3_degreeOf  -/
set_option maxRecDepth 4000 in
theorem sX3_degreeOf_0 {X : gX} {d mc ms : Nat} {Q : Option Value → gM → Prop} {M : gM} {a0 : Nat} {x1 : Int32} (s0 : St M a0) (h1 : (¬ (fX3_hasVertex M a0 x1) = 0) → Go X (d + 2) mc ms kX3_degreeOf Q 14 [(0, .ref a0), (1, .int (x1)), (2, .int (0)), (3, .int (0))] [] M 0 0) (h2 : ((fX3_hasVertex M a0 x1) = 0) → Q (some (.int ((-1)))) M) : Cn X (d + 2) mc ms kX3_degreeOf [.ref a0, .int (x1)] M Q := by
  refine g_meth rfl rfl (Nat.le_of_ble_eq_true rfl) rfl ?_
  refine g_aload_n 0 1 dX3_degreeOf_0 rfl rfl ?_
  refine g_iload_n 1 2 dX3_degreeOf_1 rfl rfl ?_
  refine g_callV (mc1 := 0) (ms1 := 0) (b := a0) (rest := []) (av := [.int (x1)]) kX3_hasVertex 5 dX3_degreeOf_2 rfl rfl mbX3_53 imX3_hasVertex seX3_hasVertex gcl3.1 s0.1 (Nat.le_of_ble_eq_true rfl) (Nat.zero_le _) (Nat.zero_le _) (tX3_hasVertex s0 ?_)
  show Go X (d + 2) mc ms kX3_degreeOf Q 5 [(0, .ref a0), (1, .int (x1))] [.int ((fX3_hasVertex M a0 x1))] M 0 0
  refine g_if_ne 10 8 dX3_degreeOf_5 rfl rfl (fun c1 => ?_) (fun c1 => ?_)
  · skip
    refine g_iconst (0) 11 dX3_degreeOf_10 rfl rfl ?_
    refine g_istore_n 12 [(2, .int (0)), (0, .ref a0), (1, .int (x1))] dX3_degreeOf_11 rfl (Nat.le_of_ble_eq_true rfl) rfl ?_
    refine g_iconst (0) 13 dX3_degreeOf_12 rfl rfl ?_
    refine g_istore_n 14 [(3, .int (0)), (2, .int (0)), (0, .ref a0), (1, .int (x1))] dX3_degreeOf_13 rfl (Nat.le_of_ble_eq_true rfl) rfl ?_
    exact g_sub [2, 3, 1, 0] _ rfl (h1 c1)
  · skip
    refine g_iconst ((-1)) 9 dX3_degreeOf_8 rfl rfl ?_
    exact g_iret dX3_degreeOf_9 rfl (Nat.zero_le _) (Nat.zero_le _) (h2 c1)

set_option maxRecDepth 4000 in
theorem sX3_degreeOf_14 {X : gX} {d mc ms : Nat} {Q : Option Value → gM → Prop} {M : gM} {c z : Nat} {a0 : Nat} {x1 : Int32} {x2 : Int32} {x3 : Int32} (s0 : St M a0) (h1 : ((g_mi M a0 3) ≤ x3) → Q (some (.int (x2))) M) (w2 : c ≤ mc) (w3 : z ≤ ms) (b4 : (¬ (g_mi M a0 3) ≤ x3) → vp_in (x3) 30) (b5 : (¬ (g_mi M a0 3) ≤ x3) → EX3_keyHas M a0 (g_mi M (a0 + 1) (x3).toNatClampNeg) x1) (h6 : (¬ (g_mi M a0 3) ≤ x3) → ((fX3_keyHas M a0 (g_mi M (a0 + 1) (x3).toNatClampNeg) x1) = 0) → Go X (d + 2) mc ms kX3_degreeOf Q 14 [(0, .ref a0), (1, .int (x1)), (2, .int (x2)), (3, .int ((x3 + 1)))] [] M c z) (h7 : (¬ (g_mi M a0 3) ≤ x3) → (¬ (fX3_keyHas M a0 (g_mi M (a0 + 1) (x3).toNatClampNeg) x1) = 0) → Go X (d + 2) mc ms kX3_degreeOf Q 14 [(0, .ref a0), (1, .int (x1)), (2, .int ((x2 + 1))), (3, .int ((x3 + 1)))] [] M c z) : Go X (d + 2) mc ms kX3_degreeOf Q 14 [(0, .ref a0), (1, .int (x1)), (2, .int (x2)), (3, .int (x3))] [] M c z := by
  refine g_iload_n 3 15 dX3_degreeOf_14 rfl rfl ?_
  refine g_aload_n 0 16 dX3_degreeOf_15 rfl rfl ?_
  refine g_getI 19 dX3_degreeOf_16 rfl flX3_39 s0.1 ?_
  refine g_icmp_ge 45 22 dX3_degreeOf_19 rfl rfl (fun c1 => ?_) (fun c1 => ?_)
  · skip
    refine g_iload_n 2 46 dX3_degreeOf_45 rfl rfl ?_
    exact g_iret dX3_degreeOf_46 rfl (w2) (w3) (h1 c1)
  · skip
    refine g_aload_n 0 23 dX3_degreeOf_22 rfl rfl ?_
    refine g_aload_n 0 24 dX3_degreeOf_23 rfl rfl ?_
    refine g_getR 27 (a0 + 1) dX3_degreeOf_24 rfl flX3_9 s0.1 s0.2.1 ?_
    refine g_iload_n 3 28 dX3_degreeOf_27 rfl rfl ?_
    refine h_iaload 29 (x3).toNatClampNeg dX3_degreeOf_28 rfl rfl s0.2.2.1 (b4 c1) ?_
    refine g_iload_n 1 30 dX3_degreeOf_29 rfl rfl ?_
    refine g_callV (mc1 := 0) (ms1 := 0) (b := a0) (rest := []) (av := [.int ((g_mi M (a0 + 1) (x3).toNatClampNeg)), .int (x1)]) kX3_keyHas 33 dX3_degreeOf_30 rfl rfl mbX3_60 imX3_keyHas seX3_keyHas gcl3.1 s0.1 (Nat.le_of_ble_eq_true rfl) (w2) (w3) (tX3_keyHas s0 (b5 c1) ?_)
    show Go X (d + 2) mc ms kX3_degreeOf Q 33 [(0, .ref a0), (1, .int (x1)), (2, .int (x2)), (3, .int (x3))] [.int ((fX3_keyHas M a0 (g_mi M (a0 + 1) (x3).toNatClampNeg) x1))] M c z
    refine g_if_eq 39 36 dX3_degreeOf_33 rfl rfl (fun c2 => ?_) (fun c2 => ?_)
    · skip
      refine g_iinc _ 3 42 [(3, .int ((x3 + 1))), (0, .ref a0), (1, .int (x1)), (2, .int (x2))] dX3_degreeOf_39 rfl rfl rfl (Nat.le_of_ble_eq_true rfl) rfl ?_
      refine g_goto 14 dX3_degreeOf_42 rfl ?_
      exact g_sub [1, 2, 3, 0] _ rfl (h6 c1 c2)
    · skip
      refine g_iinc _ 2 39 [(2, .int ((x2 + 1))), (0, .ref a0), (1, .int (x1)), (3, .int (x3))] dX3_degreeOf_36 rfl rfl rfl (Nat.le_of_ble_eq_true rfl) rfl ?_
      refine g_iinc _ 3 42 [(3, .int ((x3 + 1))), (2, .int ((x2 + 1))), (0, .ref a0), (1, .int (x1))] dX3_degreeOf_39 rfl rfl rfl (Nat.le_of_ble_eq_true rfl) rfl ?_
      refine g_goto 14 dX3_degreeOf_42 rfl ?_
      exact g_sub [2, 3, 1, 0] _ rfl (h7 c1 c2)

def bX3_degreeOf_0 (N : Nat) (M : gM) (a0 : Nat) (x1 : Int32) (k : Nat → Nat → Int32 → Int32 → Int32 → Int32) : Int32 := (if (fX3_hasVertex M a0 x1) = 0 then (-1) else (k 0 a0 x1 0 0))
def eX3_degreeOf_0 (N : Nat) (M : gM) (a0 : Nat) (x1 : Int32) (k : Nat → Nat → Int32 → Int32 → Int32 → Prop) : Prop := (if (fX3_hasVertex M a0 x1) = 0 then True else (k 0 a0 x1 0 0))
def bX3_degreeOf_14 (N : Nat) (M : gM) (a0 : Nat) (x1 : Int32) (x2 : Int32) (x3 : Int32) (k : Nat → Nat → Int32 → Int32 → Int32 → Int32) : Int32 := (if (g_mi M a0 3) ≤ x3 then x2 else (if (fX3_keyHas M a0 (g_mi M (a0 + 1) (x3).toNatClampNeg) x1) = 0 then (k 0 a0 x1 x2 (x3 + 1)) else (k 0 a0 x1 (x2 + 1) (x3 + 1))))
def eX3_degreeOf_14 (N : Nat) (M : gM) (a0 : Nat) (x1 : Int32) (x2 : Int32) (x3 : Int32) (k : Nat → Nat → Int32 → Int32 → Int32 → Prop) : Prop := ((¬ (g_mi M a0 3) ≤ x3) → vp_in (x3) 30) ∧ ((¬ (g_mi M a0 3) ≤ x3) → EX3_keyHas M a0 (g_mi M (a0 + 1) (x3).toNatClampNeg) x1) ∧ (if (g_mi M a0 3) ≤ x3 then True else (if (fX3_keyHas M a0 (g_mi M (a0 + 1) (x3).toNatClampNeg) x1) = 0 then (k 0 a0 x1 x2 (x3 + 1)) else (k 0 a0 x1 (x2 + 1) (x3 + 1))))
def wX3_degreeOf (N : Nat) (M : gM) : Nat → Nat → Nat → Int32 → Int32 → Int32 → Int32
  | 0, _, _, _, _, _ => 0
  | n + 1, h, a0, x1, x2, x3 => bX3_degreeOf_14 N M a0 x1 x2 x3 (wX3_degreeOf N M n)
def vX3_degreeOf (N : Nat) (M : gM) : Nat → Nat → Nat → Int32 → Int32 → Int32 → Prop
  | 0, _, _, _, _, _ => False
  | n + 1, h, a0, x1, x2, x3 => eX3_degreeOf_14 N M a0 x1 x2 x3 (vX3_degreeOf N M n)
set_option maxRecDepth 10000 in
theorem lpX3_degreeOf {X : gX} {d mc ms : Nat} {Q : Option Value → gM → Prop} (N : Nat) (M : gM) : ∀ n : Nat, (∀ (a0 : Nat) (x1 : Int32) (x2 : Int32) (x3 : Int32), St M a0 → vX3_degreeOf N M n 0 a0 x1 x2 x3 → Q (some (.int (wX3_degreeOf N M n 0 a0 x1 x2 x3))) M → Go X (d + 2) mc ms kX3_degreeOf Q 14 [(0, .ref a0), (1, .int (x1)), (2, .int (x2)), (3, .int (x3))] [] M 0 0) := by
  intro n
  induction n with
  | zero => exact fun _ _ _ _ _ h _ => h.elim
  | succ n ih =>
    intro a0 x1 x2 x3 s0 hT hQ
    rw [vX3_degreeOf] at hT
    rw [wX3_degreeOf] at hQ
    unfold bX3_degreeOf_14 at hQ
    unfold eX3_degreeOf_14 at hT
    obtain ⟨b4, b5, hT⟩ := hT
    exact sX3_degreeOf_14 (M := M) s0 (fun c1 => by simp only [if_pos c1] at hQ; exact hQ) (Nat.zero_le _) (Nat.zero_le _) b4 b5 (fun c1 c2 => by simp only [if_neg c1, if_pos c2] at hQ hT; exact ih _ _ _ _ (s0) hT hQ) (fun c1 c2 => by simp only [if_neg c1, if_neg c2] at hQ hT; exact ih _ _ _ _ (s0) hT hQ)
def fX3_degreeOf (N : Nat) (M : gM) (a0 : Nat) (x1 : Int32) : Int32 := (bX3_degreeOf_0 N M a0 x1 (wX3_degreeOf N M N))
def EX3_degreeOf (N : Nat) (M : gM) (a0 : Nat) (x1 : Int32) : Prop := eX3_degreeOf_0 N M a0 x1 (vX3_degreeOf N M N)
theorem tX3_degreeOf {N : Nat} {X : gX} {d mc ms : Nat} {Q : Option Value → gM → Prop} {M : gM} {a0 : Nat} {x1 : Int32} (s0 : St M a0) (hE : EX3_degreeOf N M a0 x1) (hQ : Q (some (.int (fX3_degreeOf N M a0 x1))) M) : Cn X (d + 2) mc ms kX3_degreeOf [.ref a0, .int (x1)] M Q := by
  unfold fX3_degreeOf at hQ
  unfold bX3_degreeOf_0 at hQ
  unfold EX3_degreeOf eX3_degreeOf_0 at hE
  have hT := hE
  have ih := lpX3_degreeOf (X := X) (d := d) (mc := mc) (ms := ms) (Q := Q) N M N
  exact sX3_degreeOf_0 s0 (fun c1 => by simp only [if_neg c1] at hQ hT; exact ih _ _ _ _ (s0) hT hQ) (fun c1 => by simp only [if_pos c1] at hQ; exact hQ)
/-! X5_hadKey  -/
set_option maxRecDepth 4000 in
theorem sX5_hadKey_0 {X : gX} {d mc ms : Nat} {Q : Option Value → gM → Prop} {M : gM} {a0 : Nat} {x1 : Int32} (s0 : Tb M a0) (h1 : Go X d mc ms kX5_hadKey Q 2 [(0, .ref a0), (1, .int (x1)), (2, .int (0))] [] M 0 0) : Cn X d mc ms kX5_hadKey [.ref a0, .int (x1)] M Q := by
  refine g_meth rfl rfl (Nat.le_of_ble_eq_true rfl) rfl ?_
  refine g_iconst (0) 1 dX5_hadKey_0 rfl rfl ?_
  refine g_istore_n 2 [(2, .int (0)), (0, .ref a0), (1, .int (x1))] dX5_hadKey_1 rfl (Nat.le_of_ble_eq_true rfl) rfl ?_
  exact g_sub [1, 2, 0] _ rfl (h1)

set_option maxRecDepth 4000 in
theorem sX5_hadKey_2 {X : gX} {d mc ms : Nat} {Q : Option Value → gM → Prop} {M : gM} {c z : Nat} {a0 : Nat} {x1 : Int32} {x2 : Int32} (s0 : Tb M a0) (h1 : ((g_mi M a0 4) ≤ x2) → Q (some (.int (0))) M) (w2 : c ≤ mc) (w3 : z ≤ ms) (b4 : (¬ (g_mi M a0 4) ≤ x2) → vp_in (x2) 30) (h5 : (¬ (g_mi M a0 4) ≤ x2) → (¬ (g_mi M (a0 + 1) (x2).toNatClampNeg) = x1) → Go X d mc ms kX5_hadKey Q 2 [(0, .ref a0), (1, .int (x1)), (2, .int ((x2 + 1)))] [] M c z) (h6 : (¬ (g_mi M a0 4) ≤ x2) → ((g_mi M (a0 + 1) (x2).toNatClampNeg) = x1) → Q (some (.int (1))) M) : Go X d mc ms kX5_hadKey Q 2 [(0, .ref a0), (1, .int (x1)), (2, .int (x2))] [] M c z := by
  refine g_iload_n 2 3 dX5_hadKey_2 rfl rfl ?_
  refine g_aload_n 0 4 dX5_hadKey_3 rfl rfl ?_
  refine g_getI 7 dX5_hadKey_4 rfl flX5_35 s0.1 ?_
  refine g_icmp_ge 28 10 dX5_hadKey_7 rfl rfl (fun c1 => ?_) (fun c1 => ?_)
  · skip
    refine g_iconst (0) 29 dX5_hadKey_28 rfl rfl ?_
    exact g_zret dX5_hadKey_29 rfl (by decide) (w2) (w3) (h1 c1)
  · skip
    refine g_aload_n 0 11 dX5_hadKey_10 rfl rfl ?_
    refine g_getR 14 (a0 + 1) dX5_hadKey_11 rfl flX5_9 s0.1 s0.2.1 ?_
    refine g_iload_n 2 15 dX5_hadKey_14 rfl rfl ?_
    refine h_iaload 16 (x2).toNatClampNeg dX5_hadKey_15 rfl rfl s0.2.2.1 (b4 c1) ?_
    refine g_iload_n 1 17 dX5_hadKey_16 rfl rfl ?_
    refine g_icmp_ne 22 20 dX5_hadKey_17 rfl rfl (fun c2 => ?_) (fun c2 => ?_)
    · skip
      refine g_iinc _ 2 25 [(2, .int ((x2 + 1))), (0, .ref a0), (1, .int (x1))] dX5_hadKey_22 rfl rfl rfl (Nat.le_of_ble_eq_true rfl) rfl ?_
      refine g_goto 2 dX5_hadKey_25 rfl ?_
      exact g_sub [1, 2, 0] _ rfl (h5 c1 c2)
    · skip
      refine g_iconst (1) 21 dX5_hadKey_20 rfl rfl ?_
      exact g_zret dX5_hadKey_21 rfl (by decide) (w2) (w3) (h6 c1 c2)

def bX5_hadKey_0 (N : Nat) (M : gM) (a0 : Nat) (x1 : Int32) (k : Nat → Nat → Int32 → Int32 → Int32) : Int32 := (k 0 a0 x1 0)
def eX5_hadKey_0 (N : Nat) (M : gM) (a0 : Nat) (x1 : Int32) (k : Nat → Nat → Int32 → Int32 → Prop) : Prop := (k 0 a0 x1 0)
def bX5_hadKey_2 (N : Nat) (M : gM) (a0 : Nat) (x1 : Int32) (x2 : Int32) (k : Nat → Nat → Int32 → Int32 → Int32) : Int32 := (if (g_mi M a0 4) ≤ x2 then 0 else (if (g_mi M (a0 + 1) (x2).toNatClampNeg) = x1 then 1 else (k 0 a0 x1 (x2 + 1))))
def eX5_hadKey_2 (N : Nat) (M : gM) (a0 : Nat) (x1 : Int32) (x2 : Int32) (k : Nat → Nat → Int32 → Int32 → Prop) : Prop := ((¬ (g_mi M a0 4) ≤ x2) → vp_in (x2) 30) ∧ (if (g_mi M a0 4) ≤ x2 then True else (if (g_mi M (a0 + 1) (x2).toNatClampNeg) = x1 then True else (k 0 a0 x1 (x2 + 1))))
def wX5_hadKey (N : Nat) (M : gM) : Nat → Nat → Nat → Int32 → Int32 → Int32
  | 0, _, _, _, _ => 0
  | n + 1, h, a0, x1, x2 => bX5_hadKey_2 N M a0 x1 x2 (wX5_hadKey N M n)
def vX5_hadKey (N : Nat) (M : gM) : Nat → Nat → Nat → Int32 → Int32 → Prop
  | 0, _, _, _, _ => False
  | n + 1, h, a0, x1, x2 => eX5_hadKey_2 N M a0 x1 x2 (vX5_hadKey N M n)
set_option maxRecDepth 10000 in
theorem lpX5_hadKey {X : gX} {d mc ms : Nat} {Q : Option Value → gM → Prop} (N : Nat) (M : gM) : ∀ n : Nat, (∀ (a0 : Nat) (x1 : Int32) (x2 : Int32), Tb M a0 → vX5_hadKey N M n 0 a0 x1 x2 → Q (some (.int (wX5_hadKey N M n 0 a0 x1 x2))) M → Go X d mc ms kX5_hadKey Q 2 [(0, .ref a0), (1, .int (x1)), (2, .int (x2))] [] M 0 0) := by
  intro n
  induction n with
  | zero => exact fun _ _ _ _ h _ => h.elim
  | succ n ih =>
    intro a0 x1 x2 s0 hT hQ
    rw [vX5_hadKey] at hT
    rw [wX5_hadKey] at hQ
    unfold bX5_hadKey_2 at hQ
    unfold eX5_hadKey_2 at hT
    obtain ⟨b4, hT⟩ := hT
    exact sX5_hadKey_2 (M := M) s0 (fun c1 => by simp only [if_pos c1] at hQ; exact hQ) (Nat.zero_le _) (Nat.zero_le _) b4 (fun c1 c2 => by simp only [if_neg c1, if_neg c2] at hQ hT; exact ih _ _ _ (s0) hT hQ) (fun c1 c2 => by simp only [if_neg c1, if_pos c2] at hQ; exact hQ)
def fX5_hadKey (N : Nat) (M : gM) (a0 : Nat) (x1 : Int32) : Int32 := (bX5_hadKey_0 N M a0 x1 (wX5_hadKey N M N))
def EX5_hadKey (N : Nat) (M : gM) (a0 : Nat) (x1 : Int32) : Prop := eX5_hadKey_0 N M a0 x1 (vX5_hadKey N M N)
theorem tX5_hadKey {N : Nat} {X : gX} {d mc ms : Nat} {Q : Option Value → gM → Prop} {M : gM} {a0 : Nat} {x1 : Int32} (s0 : Tb M a0) (hE : EX5_hadKey N M a0 x1) (hQ : Q (some (.int (fX5_hadKey N M a0 x1))) M) : Cn X d mc ms kX5_hadKey [.ref a0, .int (x1)] M Q := by
  unfold fX5_hadKey at hQ
  unfold bX5_hadKey_0 at hQ
  unfold EX5_hadKey eX5_hadKey_0 at hE
  have hT := hE
  have ih := lpX5_hadKey (X := X) (d := d) (mc := mc) (ms := ms) (Q := Q) N M N
  exact sX5_hadKey_0 s0 (ih _ _ _ (s0) hT hQ)
/-! X5_ownVertex  -/
set_option maxRecDepth 4000 in
theorem sX5_ownVertex_0 {X : gX} {d mc ms : Nat} {Q : Option Value → gM → Prop} {M : gM} {a0 : Nat} {x1 : Int32} (s0 : Tb M a0) (h1 : Go X (d + 1) mc ms kX5_ownVertex Q 4 [(0, .ref a0), (1, .int (x1)), (2, .int (0)), (3, .int (0))] [] M 0 0) : Cn X (d + 1) mc ms kX5_ownVertex [.ref a0, .int (x1)] M Q := by
  refine g_meth rfl rfl (Nat.le_of_ble_eq_true rfl) rfl ?_
  refine g_iconst (0) 1 dX5_ownVertex_0 rfl rfl ?_
  refine g_istore_n 2 [(2, .int (0)), (0, .ref a0), (1, .int (x1))] dX5_ownVertex_1 rfl (Nat.le_of_ble_eq_true rfl) rfl ?_
  refine g_iconst (0) 3 dX5_ownVertex_2 rfl rfl ?_
  refine g_istore_n 4 [(3, .int (0)), (2, .int (0)), (0, .ref a0), (1, .int (x1))] dX5_ownVertex_3 rfl (Nat.le_of_ble_eq_true rfl) rfl ?_
  exact g_sub [2, 3, 1, 0] _ rfl (h1)

set_option maxRecDepth 4000 in
theorem sX5_ownVertex_4 {X : gX} {d mc ms : Nat} {Q : Option Value → gM → Prop} {M : gM} {c z : Nat} {a0 : Nat} {x1 : Int32} {x2 : Int32} {x3 : Int32} (s0 : Tb M a0) (w1 : c ≤ mc) (w2 : z ≤ ms) (b3 : (3 ≤ x3) → EX8_vertexOf M x1 (i_rm x2 3) (g_mi M a0 6) (g_mi M a0 5)) (h4 : (3 ≤ x3) → Q (some (.int ((fX8_vertexOf x1 (i_rm x2 3) (g_mi M a0 6) (g_mi M a0 5))))) M) (b5 : (¬ 3 ≤ x3) → EX8_vertexOf M x1 x3 (g_mi M a0 6) (g_mi M a0 5)) (b6 : (¬ 3 ≤ x3) → vp_in ((fX8_vertexOf x1 x3 (g_mi M a0 6) (g_mi M a0 5))) 60) (h7 : (¬ 3 ≤ x3) → Go X (d + 1) mc ms kX5_ownVertex Q 4 [(0, .ref a0), (1, .int (x1)), (2, .int ((x2 + (g_mi M (a0 + 2) ((fX8_vertexOf x1 x3 (g_mi M a0 6) (g_mi M a0 5))).toNatClampNeg)))), (3, .int ((x3 + 1)))] [] M c z) : Go X (d + 1) mc ms kX5_ownVertex Q 4 [(0, .ref a0), (1, .int (x1)), (2, .int (x2)), (3, .int (x3))] [] M c z := by
  refine g_iload_n 3 5 dX5_ownVertex_4 rfl rfl ?_
  refine g_iconst (3) 6 dX5_ownVertex_5 rfl rfl ?_
  refine g_icmp_ge 36 9 dX5_ownVertex_6 rfl rfl (fun c1 => ?_) (fun c1 => ?_)
  · skip
    refine g_iload_n 1 37 dX5_ownVertex_36 rfl rfl ?_
    refine g_iload_n 2 38 dX5_ownVertex_37 rfl rfl ?_
    refine g_iconst (3) 39 dX5_ownVertex_38 rfl rfl ?_
    refine h_irem 40 dX5_ownVertex_39 rfl (by decide) ?_
    refine g_aload_n 0 41 dX5_ownVertex_40 rfl rfl ?_
    refine g_getI 44 dX5_ownVertex_41 rfl flX5_38 s0.1 ?_
    refine g_aload_n 0 45 dX5_ownVertex_44 rfl rfl ?_
    refine g_getI 48 dX5_ownVertex_45 rfl flX5_21 s0.1 ?_
    refine g_callSN (mc1 := 0) (ms1 := 0) (rest := []) (av := [.int (x1), .int ((i_rm x2 3)), .int ((g_mi M a0 6)), .int ((g_mi M a0 5))]) kX8_vertexOf 51 dX5_ownVertex_48 rfl rfl mbX5_77 smX8_vertexOf (Nat.le_of_ble_eq_true rfl) (w1) (w2) (tX8_vertexOf (b3 c1) ?_)
    show Go X (d + 1) mc ms kX5_ownVertex Q 51 [(0, .ref a0), (1, .int (x1)), (2, .int (x2)), (3, .int (x3))] [.int ((fX8_vertexOf x1 (i_rm x2 3) (g_mi M a0 6) (g_mi M a0 5)))] M c z
    exact g_iret dX5_ownVertex_51 rfl (w1) (w2) (h4 c1)
  · skip
    refine g_iload_n 2 10 dX5_ownVertex_9 rfl rfl ?_
    refine g_aload_n 0 11 dX5_ownVertex_10 rfl rfl ?_
    refine g_getR 14 (a0 + 2) dX5_ownVertex_11 rfl flX5_15 s0.1 s0.2.2.2.1 ?_
    refine g_iload_n 1 15 dX5_ownVertex_14 rfl rfl ?_
    refine g_iload_n 3 16 dX5_ownVertex_15 rfl rfl ?_
    refine g_aload_n 0 17 dX5_ownVertex_16 rfl rfl ?_
    refine g_getI 20 dX5_ownVertex_17 rfl flX5_38 s0.1 ?_
    refine g_aload_n 0 21 dX5_ownVertex_20 rfl rfl ?_
    refine g_getI 24 dX5_ownVertex_21 rfl flX5_21 s0.1 ?_
    refine g_callSN (mc1 := 0) (ms1 := 0) (rest := [.ref (a0 + 2), .int (x2)]) (av := [.int (x1), .int (x3), .int ((g_mi M a0 6)), .int ((g_mi M a0 5))]) kX8_vertexOf 27 dX5_ownVertex_24 rfl rfl mbX5_77 smX8_vertexOf (Nat.le_of_ble_eq_true rfl) (w1) (w2) (tX8_vertexOf (b5 c1) ?_)
    show Go X (d + 1) mc ms kX5_ownVertex Q 27 [(0, .ref a0), (1, .int (x1)), (2, .int (x2)), (3, .int (x3))] [.int ((fX8_vertexOf x1 x3 (g_mi M a0 6) (g_mi M a0 5))), .ref (a0 + 2), .int (x2)] M c z
    refine h_iaload 28 ((fX8_vertexOf x1 x3 (g_mi M a0 6) (g_mi M a0 5))).toNatClampNeg dX5_ownVertex_27 rfl rfl s0.2.2.2.2.1 (b6 c1) ?_
    refine g_iadd 29 dX5_ownVertex_28 rfl ?_
    refine g_istore_n 30 [(2, .int ((x2 + (g_mi M (a0 + 2) ((fX8_vertexOf x1 x3 (g_mi M a0 6) (g_mi M a0 5))).toNatClampNeg)))), (0, .ref a0), (1, .int (x1)), (3, .int (x3))] dX5_ownVertex_29 rfl (Nat.le_of_ble_eq_true rfl) rfl ?_
    refine g_iinc _ 3 33 [(3, .int ((x3 + 1))), (2, .int ((x2 + (g_mi M (a0 + 2) ((fX8_vertexOf x1 x3 (g_mi M a0 6) (g_mi M a0 5))).toNatClampNeg)))), (0, .ref a0), (1, .int (x1))] dX5_ownVertex_30 rfl rfl rfl (Nat.le_of_ble_eq_true rfl) rfl ?_
    refine g_goto 4 dX5_ownVertex_33 rfl ?_
    exact g_sub [2, 3, 1, 0] _ rfl (h7 c1)

def bX5_ownVertex_0 (N : Nat) (M : gM) (a0 : Nat) (x1 : Int32) (k : Nat → Nat → Int32 → Int32 → Int32 → Int32) : Int32 := (k 0 a0 x1 0 0)
def eX5_ownVertex_0 (N : Nat) (M : gM) (a0 : Nat) (x1 : Int32) (k : Nat → Nat → Int32 → Int32 → Int32 → Prop) : Prop := (k 0 a0 x1 0 0)
def bX5_ownVertex_4 (N : Nat) (M : gM) (a0 : Nat) (x1 : Int32) (x2 : Int32) (x3 : Int32) (k : Nat → Nat → Int32 → Int32 → Int32 → Int32) : Int32 := (if 3 ≤ x3 then (fX8_vertexOf x1 (i_rm x2 3) (g_mi M a0 6) (g_mi M a0 5)) else (k 0 a0 x1 (x2 + (g_mi M (a0 + 2) ((fX8_vertexOf x1 x3 (g_mi M a0 6) (g_mi M a0 5))).toNatClampNeg)) (x3 + 1)))
def eX5_ownVertex_4 (N : Nat) (M : gM) (a0 : Nat) (x1 : Int32) (x2 : Int32) (x3 : Int32) (k : Nat → Nat → Int32 → Int32 → Int32 → Prop) : Prop := ((3 ≤ x3) → EX8_vertexOf M x1 (i_rm x2 3) (g_mi M a0 6) (g_mi M a0 5)) ∧ ((¬ 3 ≤ x3) → EX8_vertexOf M x1 x3 (g_mi M a0 6) (g_mi M a0 5)) ∧ ((¬ 3 ≤ x3) → vp_in ((fX8_vertexOf x1 x3 (g_mi M a0 6) (g_mi M a0 5))) 60) ∧ (if 3 ≤ x3 then True else (k 0 a0 x1 (x2 + (g_mi M (a0 + 2) ((fX8_vertexOf x1 x3 (g_mi M a0 6) (g_mi M a0 5))).toNatClampNeg)) (x3 + 1)))
def wX5_ownVertex (N : Nat) (M : gM) : Nat → Nat → Nat → Int32 → Int32 → Int32 → Int32
  | 0, _, _, _, _, _ => 0
  | n + 1, h, a0, x1, x2, x3 => bX5_ownVertex_4 N M a0 x1 x2 x3 (wX5_ownVertex N M n)
def vX5_ownVertex (N : Nat) (M : gM) : Nat → Nat → Nat → Int32 → Int32 → Int32 → Prop
  | 0, _, _, _, _, _ => False
  | n + 1, h, a0, x1, x2, x3 => eX5_ownVertex_4 N M a0 x1 x2 x3 (vX5_ownVertex N M n)
set_option maxRecDepth 10000 in
theorem lpX5_ownVertex {X : gX} {d mc ms : Nat} {Q : Option Value → gM → Prop} (N : Nat) (M : gM) : ∀ n : Nat, (∀ (a0 : Nat) (x1 : Int32) (x2 : Int32) (x3 : Int32), Tb M a0 → vX5_ownVertex N M n 0 a0 x1 x2 x3 → Q (some (.int (wX5_ownVertex N M n 0 a0 x1 x2 x3))) M → Go X (d + 1) mc ms kX5_ownVertex Q 4 [(0, .ref a0), (1, .int (x1)), (2, .int (x2)), (3, .int (x3))] [] M 0 0) := by
  intro n
  induction n with
  | zero => exact fun _ _ _ _ _ h _ => h.elim
  | succ n ih =>
    intro a0 x1 x2 x3 s0 hT hQ
    rw [vX5_ownVertex] at hT
    rw [wX5_ownVertex] at hQ
    unfold bX5_ownVertex_4 at hQ
    unfold eX5_ownVertex_4 at hT
    obtain ⟨b3, b5, b6, hT⟩ := hT
    exact sX5_ownVertex_4 (M := M) s0 (Nat.zero_le _) (Nat.zero_le _) b3 (fun c1 => by simp only [if_pos c1] at hQ; exact hQ) b5 b6 (fun c1 => by simp only [if_neg c1] at hQ hT; exact ih _ _ _ _ (s0) hT hQ)
def fX5_ownVertex (N : Nat) (M : gM) (a0 : Nat) (x1 : Int32) : Int32 := (bX5_ownVertex_0 N M a0 x1 (wX5_ownVertex N M N))
def EX5_ownVertex (N : Nat) (M : gM) (a0 : Nat) (x1 : Int32) : Prop := eX5_ownVertex_0 N M a0 x1 (vX5_ownVertex N M N)
theorem tX5_ownVertex {N : Nat} {X : gX} {d mc ms : Nat} {Q : Option Value → gM → Prop} {M : gM} {a0 : Nat} {x1 : Int32} (s0 : Tb M a0) (hE : EX5_ownVertex N M a0 x1) (hQ : Q (some (.int (fX5_ownVertex N M a0 x1))) M) : Cn X (d + 1) mc ms kX5_ownVertex [.ref a0, .int (x1)] M Q := by
  unfold fX5_ownVertex at hQ
  unfold bX5_ownVertex_0 at hQ
  unfold EX5_ownVertex eX5_ownVertex_0 at hE
  have hT := hE
  have ih := lpX5_ownVertex (X := X) (d := d) (mc := mc) (ms := ms) (Q := Q) N M N
  exact sX5_ownVertex_0 s0 (ih _ _ _ _ (s0) hT hQ)
/-! X5_signsBelow  -/
set_option maxRecDepth 4000 in
theorem sX5_signsBelow_0 {X : gX} {d mc ms : Nat} {Q : Option Value → gM → Prop} {M : gM} {a0 : Nat} {x1 : Int32} (s0 : Tb M a0) (h1 : Go X d mc ms kX5_signsBelow Q 4 [(0, .ref a0), (1, .int (x1)), (2, .int (0)), (3, .int (0))] [] M 0 0) : Cn X d mc ms kX5_signsBelow [.ref a0, .int (x1)] M Q := by
  refine g_meth rfl rfl (Nat.le_of_ble_eq_true rfl) rfl ?_
  refine g_iconst (0) 1 dX5_signsBelow_0 rfl rfl ?_
  refine g_istore_n 2 [(2, .int (0)), (0, .ref a0), (1, .int (x1))] dX5_signsBelow_1 rfl (Nat.le_of_ble_eq_true rfl) rfl ?_
  refine g_iconst (0) 3 dX5_signsBelow_2 rfl rfl ?_
  refine g_istore_n 4 [(3, .int (0)), (2, .int (0)), (0, .ref a0), (1, .int (x1))] dX5_signsBelow_3 rfl (Nat.le_of_ble_eq_true rfl) rfl ?_
  exact g_sub [2, 3, 1, 0] _ rfl (h1)

set_option maxRecDepth 4000 in
theorem sX5_signsBelow_4 {X : gX} {d mc ms : Nat} {Q : Option Value → gM → Prop} {M : gM} {c z : Nat} {a0 : Nat} {x1 : Int32} {x2 : Int32} {x3 : Int32} (s0 : Tb M a0) (h1 : (x1 ≤ x3) → Q (some (.int (x2))) M) (w2 : c ≤ mc) (w3 : z ≤ ms) (h4 : (¬ x1 ≤ x3) → ((3 * (g_mi M a0 5)) ≤ x3) → Q (some (.int (x2))) M) (b5 : (¬ x1 ≤ x3) → (¬ (3 * (g_mi M a0 5)) ≤ x3) → vp_in (x3) 60) (h6 : (¬ x1 ≤ x3) → (¬ (3 * (g_mi M a0 5)) ≤ x3) → ((g_mi M (a0 + 2) (x3).toNatClampNeg) = 3) → Go X d mc ms kX5_signsBelow Q 4 [(0, .ref a0), (1, .int (x1)), (2, .int (x2)), (3, .int ((x3 + 1)))] [] M c z) (h7 : (¬ x1 ≤ x3) → (¬ (3 * (g_mi M a0 5)) ≤ x3) → (¬ (g_mi M (a0 + 2) (x3).toNatClampNeg) = 3) → Go X d mc ms kX5_signsBelow Q 4 [(0, .ref a0), (1, .int (x1)), (2, .int ((x2 + 1))), (3, .int ((x3 + 1)))] [] M c z) : Go X d mc ms kX5_signsBelow Q 4 [(0, .ref a0), (1, .int (x1)), (2, .int (x2)), (3, .int (x3))] [] M c z := by
  refine g_iload_n 3 5 dX5_signsBelow_4 rfl rfl ?_
  refine g_iload_n 1 6 dX5_signsBelow_5 rfl rfl ?_
  refine g_icmp_ge 38 9 dX5_signsBelow_6 rfl rfl (fun c1 => ?_) (fun c1 => ?_)
  · skip
    refine g_iload_n 2 39 dX5_signsBelow_38 rfl rfl ?_
    exact g_iret dX5_signsBelow_39 rfl (w2) (w3) (h1 c1)
  · skip
    refine g_iload_n 3 10 dX5_signsBelow_9 rfl rfl ?_
    refine g_iconst (3) 11 dX5_signsBelow_10 rfl rfl ?_
    refine g_aload_n 0 12 dX5_signsBelow_11 rfl rfl ?_
    refine g_getI 15 dX5_signsBelow_12 rfl flX5_21 s0.1 ?_
    refine g_imul 16 dX5_signsBelow_15 rfl ?_
    refine g_icmp_ge 38 19 dX5_signsBelow_16 rfl rfl (fun c2 => ?_) (fun c2 => ?_)
    · skip
      refine g_iload_n 2 39 dX5_signsBelow_38 rfl rfl ?_
      exact g_iret dX5_signsBelow_39 rfl (w2) (w3) (h4 c1 c2)
    · skip
      refine g_aload_n 0 20 dX5_signsBelow_19 rfl rfl ?_
      refine g_getR 23 (a0 + 2) dX5_signsBelow_20 rfl flX5_15 s0.1 s0.2.2.2.1 ?_
      refine g_iload_n 3 24 dX5_signsBelow_23 rfl rfl ?_
      refine h_iaload 25 (x3).toNatClampNeg dX5_signsBelow_24 rfl rfl s0.2.2.2.2.1 (b5 c1 c2) ?_
      refine g_iconst (3) 26 dX5_signsBelow_25 rfl rfl ?_
      refine g_icmp_eq 32 29 dX5_signsBelow_26 rfl rfl (fun c3 => ?_) (fun c3 => ?_)
      · skip
        refine g_iinc _ 3 35 [(3, .int ((x3 + 1))), (0, .ref a0), (1, .int (x1)), (2, .int (x2))] dX5_signsBelow_32 rfl rfl rfl (Nat.le_of_ble_eq_true rfl) rfl ?_
        refine g_goto 4 dX5_signsBelow_35 rfl ?_
        exact g_sub [1, 2, 3, 0] _ rfl (h6 c1 c2 c3)
      · skip
        refine g_iinc _ 2 32 [(2, .int ((x2 + 1))), (0, .ref a0), (1, .int (x1)), (3, .int (x3))] dX5_signsBelow_29 rfl rfl rfl (Nat.le_of_ble_eq_true rfl) rfl ?_
        refine g_iinc _ 3 35 [(3, .int ((x3 + 1))), (2, .int ((x2 + 1))), (0, .ref a0), (1, .int (x1))] dX5_signsBelow_32 rfl rfl rfl (Nat.le_of_ble_eq_true rfl) rfl ?_
        refine g_goto 4 dX5_signsBelow_35 rfl ?_
        exact g_sub [2, 3, 1, 0] _ rfl (h7 c1 c2 c3)

def bX5_signsBelow_0 (N : Nat) (M : gM) (a0 : Nat) (x1 : Int32) (k : Nat → Nat → Int32 → Int32 → Int32 → Int32) : Int32 := (k 0 a0 x1 0 0)
def eX5_signsBelow_0 (N : Nat) (M : gM) (a0 : Nat) (x1 : Int32) (k : Nat → Nat → Int32 → Int32 → Int32 → Prop) : Prop := (k 0 a0 x1 0 0)
def bX5_signsBelow_4 (N : Nat) (M : gM) (a0 : Nat) (x1 : Int32) (x2 : Int32) (x3 : Int32) (k : Nat → Nat → Int32 → Int32 → Int32 → Int32) : Int32 := (if x1 ≤ x3 then x2 else (if (3 * (g_mi M a0 5)) ≤ x3 then x2 else (if (g_mi M (a0 + 2) (x3).toNatClampNeg) = 3 then (k 0 a0 x1 x2 (x3 + 1)) else (k 0 a0 x1 (x2 + 1) (x3 + 1)))))
def eX5_signsBelow_4 (N : Nat) (M : gM) (a0 : Nat) (x1 : Int32) (x2 : Int32) (x3 : Int32) (k : Nat → Nat → Int32 → Int32 → Int32 → Prop) : Prop := ((¬ x1 ≤ x3) → (¬ (3 * (g_mi M a0 5)) ≤ x3) → vp_in (x3) 60) ∧ (if x1 ≤ x3 then True else (if (3 * (g_mi M a0 5)) ≤ x3 then True else (if (g_mi M (a0 + 2) (x3).toNatClampNeg) = 3 then (k 0 a0 x1 x2 (x3 + 1)) else (k 0 a0 x1 (x2 + 1) (x3 + 1)))))
def wX5_signsBelow (N : Nat) (M : gM) : Nat → Nat → Nat → Int32 → Int32 → Int32 → Int32
  | 0, _, _, _, _, _ => 0
  | n + 1, h, a0, x1, x2, x3 => bX5_signsBelow_4 N M a0 x1 x2 x3 (wX5_signsBelow N M n)
def vX5_signsBelow (N : Nat) (M : gM) : Nat → Nat → Nat → Int32 → Int32 → Int32 → Prop
  | 0, _, _, _, _, _ => False
  | n + 1, h, a0, x1, x2, x3 => eX5_signsBelow_4 N M a0 x1 x2 x3 (vX5_signsBelow N M n)
set_option maxRecDepth 10000 in
theorem lpX5_signsBelow {X : gX} {d mc ms : Nat} {Q : Option Value → gM → Prop} (N : Nat) (M : gM) : ∀ n : Nat, (∀ (a0 : Nat) (x1 : Int32) (x2 : Int32) (x3 : Int32), Tb M a0 → vX5_signsBelow N M n 0 a0 x1 x2 x3 → Q (some (.int (wX5_signsBelow N M n 0 a0 x1 x2 x3))) M → Go X d mc ms kX5_signsBelow Q 4 [(0, .ref a0), (1, .int (x1)), (2, .int (x2)), (3, .int (x3))] [] M 0 0) := by
  intro n
  induction n with
  | zero => exact fun _ _ _ _ _ h _ => h.elim
  | succ n ih =>
    intro a0 x1 x2 x3 s0 hT hQ
    rw [vX5_signsBelow] at hT
    rw [wX5_signsBelow] at hQ
    unfold bX5_signsBelow_4 at hQ
    unfold eX5_signsBelow_4 at hT
    obtain ⟨b5, hT⟩ := hT
    exact sX5_signsBelow_4 (M := M) s0 (fun c1 => by simp only [if_pos c1] at hQ; exact hQ) (Nat.zero_le _) (Nat.zero_le _) (fun c1 c2 => by simp only [if_neg c1, if_pos c2] at hQ; exact hQ) b5 (fun c1 c2 c3 => by simp only [if_neg c1, if_neg c2, if_pos c3] at hQ hT; exact ih _ _ _ _ (s0) hT hQ) (fun c1 c2 c3 => by simp only [if_neg c1, if_neg c2, if_neg c3] at hQ hT; exact ih _ _ _ _ (s0) hT hQ)
def fX5_signsBelow (N : Nat) (M : gM) (a0 : Nat) (x1 : Int32) : Int32 := (bX5_signsBelow_0 N M a0 x1 (wX5_signsBelow N M N))
def EX5_signsBelow (N : Nat) (M : gM) (a0 : Nat) (x1 : Int32) : Prop := eX5_signsBelow_0 N M a0 x1 (vX5_signsBelow N M N)
theorem tX5_signsBelow {N : Nat} {X : gX} {d mc ms : Nat} {Q : Option Value → gM → Prop} {M : gM} {a0 : Nat} {x1 : Int32} (s0 : Tb M a0) (hE : EX5_signsBelow N M a0 x1) (hQ : Q (some (.int (fX5_signsBelow N M a0 x1))) M) : Cn X d mc ms kX5_signsBelow [.ref a0, .int (x1)] M Q := by
  unfold fX5_signsBelow at hQ
  unfold bX5_signsBelow_0 at hQ
  unfold EX5_signsBelow eX5_signsBelow_0 at hE
  have hT := hE
  have ih := lpX5_signsBelow (X := X) (d := d) (mc := mc) (ms := ms) (Q := Q) N M N
  exact sX5_signsBelow_0 s0 (ih _ _ _ _ (s0) hT hQ)
/-! X5_placeOf  -/
set_option maxRecDepth 4000 in
theorem sX5_placeOf_0 {X : gX} {d mc ms : Nat} {Q : Option Value → gM → Prop} {M : gM} {a0 : Nat} {x1 : Int32} (s0 : Tb M a0) (h1 : Go X (d + 1) mc ms kX5_placeOf Q 4 [(0, .ref a0), (1, .int (x1)), (2, .int (0)), (3, .int (0))] [] M 0 0) : Cn X (d + 1) mc ms kX5_placeOf [.ref a0, .int (x1)] M Q := by
  refine g_meth rfl rfl (Nat.le_of_ble_eq_true rfl) rfl ?_
  refine g_iconst (0) 1 dX5_placeOf_0 rfl rfl ?_
  refine g_istore_n 2 [(2, .int (0)), (0, .ref a0), (1, .int (x1))] dX5_placeOf_1 rfl (Nat.le_of_ble_eq_true rfl) rfl ?_
  refine g_iconst (0) 3 dX5_placeOf_2 rfl rfl ?_
  refine g_istore_n 4 [(3, .int (0)), (2, .int (0)), (0, .ref a0), (1, .int (x1))] dX5_placeOf_3 rfl (Nat.le_of_ble_eq_true rfl) rfl ?_
  exact g_sub [2, 3, 1, 0] _ rfl (h1)

set_option maxRecDepth 4000 in
theorem sX5_placeOf_4 {X : gX} {d mc ms : Nat} {Q : Option Value → gM → Prop} {M : gM} {c z : Nat} {a0 : Nat} {x1 : Int32} {x2 : Int32} {x3 : Int32} (s0 : Tb M a0) (h1 : (3 ≤ x3) → ((g_mi M a0 4) ≤ 0) → Q (some (.int (0))) M) (w2 : c ≤ mc) (w3 : z ≤ ms) (b4 : (3 ≤ x3) → (¬ (g_mi M a0 4) ≤ 0) → ¬ ((g_mi M a0 4) : Int32) = 0) (h5 : (3 ≤ x3) → (¬ (g_mi M a0 4) ≤ 0) → Q (some (.int ((i_rm x2 (g_mi M a0 4))))) M) (b6 : (¬ 3 ≤ x3) → EX8_vertexOf M x1 x3 (g_mi M a0 6) (g_mi M a0 5)) (b7 : (¬ 3 ≤ x3) → vp_in ((fX8_vertexOf x1 x3 (g_mi M a0 6) (g_mi M a0 5))) 60) (h8 : (¬ 3 ≤ x3) → Go X (d + 1) mc ms kX5_placeOf Q 4 [(0, .ref a0), (1, .int (x1)), (2, .int ((x2 + (g_mi M (a0 + 3) ((fX8_vertexOf x1 x3 (g_mi M a0 6) (g_mi M a0 5))).toNatClampNeg)))), (3, .int ((x3 + 1)))] [] M c z) : Go X (d + 1) mc ms kX5_placeOf Q 4 [(0, .ref a0), (1, .int (x1)), (2, .int (x2)), (3, .int (x3))] [] M c z := by
  refine g_iload_n 3 5 dX5_placeOf_4 rfl rfl ?_
  refine g_iconst (3) 6 dX5_placeOf_5 rfl rfl ?_
  refine g_icmp_ge 36 9 dX5_placeOf_6 rfl rfl (fun c1 => ?_) (fun c1 => ?_)
  · skip
    refine g_aload_n 0 37 dX5_placeOf_36 rfl rfl ?_
    refine g_getI 40 dX5_placeOf_37 rfl flX5_35 s0.1 ?_
    refine g_if_le 52 43 dX5_placeOf_40 rfl rfl (fun c2 => ?_) (fun c2 => ?_)
    · skip
      refine g_iconst (0) 53 dX5_placeOf_52 rfl rfl ?_
      exact g_iret dX5_placeOf_53 rfl (w2) (w3) (h1 c1 c2)
    · skip
      refine g_iload_n 2 44 dX5_placeOf_43 rfl rfl ?_
      refine g_aload_n 0 45 dX5_placeOf_44 rfl rfl ?_
      refine g_getI 48 dX5_placeOf_45 rfl flX5_35 s0.1 ?_
      refine h_irem 49 dX5_placeOf_48 rfl (b4 c1 c2) ?_
      refine g_goto 53 dX5_placeOf_49 rfl ?_
      exact g_iret dX5_placeOf_53 rfl (w2) (w3) (h5 c1 c2)
  · skip
    refine g_iload_n 2 10 dX5_placeOf_9 rfl rfl ?_
    refine g_aload_n 0 11 dX5_placeOf_10 rfl rfl ?_
    refine g_getR 14 (a0 + 3) dX5_placeOf_11 rfl flX5_18 s0.1 s0.2.2.2.2.2.1 ?_
    refine g_iload_n 1 15 dX5_placeOf_14 rfl rfl ?_
    refine g_iload_n 3 16 dX5_placeOf_15 rfl rfl ?_
    refine g_aload_n 0 17 dX5_placeOf_16 rfl rfl ?_
    refine g_getI 20 dX5_placeOf_17 rfl flX5_38 s0.1 ?_
    refine g_aload_n 0 21 dX5_placeOf_20 rfl rfl ?_
    refine g_getI 24 dX5_placeOf_21 rfl flX5_21 s0.1 ?_
    refine g_callSN (mc1 := 0) (ms1 := 0) (rest := [.ref (a0 + 3), .int (x2)]) (av := [.int (x1), .int (x3), .int ((g_mi M a0 6)), .int ((g_mi M a0 5))]) kX8_vertexOf 27 dX5_placeOf_24 rfl rfl mbX5_77 smX8_vertexOf (Nat.le_of_ble_eq_true rfl) (w2) (w3) (tX8_vertexOf (b6 c1) ?_)
    show Go X (d + 1) mc ms kX5_placeOf Q 27 [(0, .ref a0), (1, .int (x1)), (2, .int (x2)), (3, .int (x3))] [.int ((fX8_vertexOf x1 x3 (g_mi M a0 6) (g_mi M a0 5))), .ref (a0 + 3), .int (x2)] M c z
    refine h_iaload 28 ((fX8_vertexOf x1 x3 (g_mi M a0 6) (g_mi M a0 5))).toNatClampNeg dX5_placeOf_27 rfl rfl s0.2.2.2.2.2.2 (b7 c1) ?_
    refine g_iadd 29 dX5_placeOf_28 rfl ?_
    refine g_istore_n 30 [(2, .int ((x2 + (g_mi M (a0 + 3) ((fX8_vertexOf x1 x3 (g_mi M a0 6) (g_mi M a0 5))).toNatClampNeg)))), (0, .ref a0), (1, .int (x1)), (3, .int (x3))] dX5_placeOf_29 rfl (Nat.le_of_ble_eq_true rfl) rfl ?_
    refine g_iinc _ 3 33 [(3, .int ((x3 + 1))), (2, .int ((x2 + (g_mi M (a0 + 3) ((fX8_vertexOf x1 x3 (g_mi M a0 6) (g_mi M a0 5))).toNatClampNeg)))), (0, .ref a0), (1, .int (x1))] dX5_placeOf_30 rfl rfl rfl (Nat.le_of_ble_eq_true rfl) rfl ?_
    refine g_goto 4 dX5_placeOf_33 rfl ?_
    exact g_sub [2, 3, 1, 0] _ rfl (h8 c1)

def bX5_placeOf_0 (N : Nat) (M : gM) (a0 : Nat) (x1 : Int32) (k : Nat → Nat → Int32 → Int32 → Int32 → Int32) : Int32 := (k 0 a0 x1 0 0)
def eX5_placeOf_0 (N : Nat) (M : gM) (a0 : Nat) (x1 : Int32) (k : Nat → Nat → Int32 → Int32 → Int32 → Prop) : Prop := (k 0 a0 x1 0 0)
def bX5_placeOf_4 (N : Nat) (M : gM) (a0 : Nat) (x1 : Int32) (x2 : Int32) (x3 : Int32) (k : Nat → Nat → Int32 → Int32 → Int32 → Int32) : Int32 := (if 3 ≤ x3 then (if (g_mi M a0 4) ≤ 0 then 0 else (i_rm x2 (g_mi M a0 4))) else (k 0 a0 x1 (x2 + (g_mi M (a0 + 3) ((fX8_vertexOf x1 x3 (g_mi M a0 6) (g_mi M a0 5))).toNatClampNeg)) (x3 + 1)))
def eX5_placeOf_4 (N : Nat) (M : gM) (a0 : Nat) (x1 : Int32) (x2 : Int32) (x3 : Int32) (k : Nat → Nat → Int32 → Int32 → Int32 → Prop) : Prop := ((3 ≤ x3) → (¬ (g_mi M a0 4) ≤ 0) → ¬ ((g_mi M a0 4) : Int32) = 0) ∧ ((¬ 3 ≤ x3) → EX8_vertexOf M x1 x3 (g_mi M a0 6) (g_mi M a0 5)) ∧ ((¬ 3 ≤ x3) → vp_in ((fX8_vertexOf x1 x3 (g_mi M a0 6) (g_mi M a0 5))) 60) ∧ (if 3 ≤ x3 then (if (g_mi M a0 4) ≤ 0 then True else True) else (k 0 a0 x1 (x2 + (g_mi M (a0 + 3) ((fX8_vertexOf x1 x3 (g_mi M a0 6) (g_mi M a0 5))).toNatClampNeg)) (x3 + 1)))
def wX5_placeOf (N : Nat) (M : gM) : Nat → Nat → Nat → Int32 → Int32 → Int32 → Int32
  | 0, _, _, _, _, _ => 0
  | n + 1, h, a0, x1, x2, x3 => bX5_placeOf_4 N M a0 x1 x2 x3 (wX5_placeOf N M n)
def vX5_placeOf (N : Nat) (M : gM) : Nat → Nat → Nat → Int32 → Int32 → Int32 → Prop
  | 0, _, _, _, _, _ => False
  | n + 1, h, a0, x1, x2, x3 => eX5_placeOf_4 N M a0 x1 x2 x3 (vX5_placeOf N M n)
set_option maxRecDepth 10000 in
theorem lpX5_placeOf {X : gX} {d mc ms : Nat} {Q : Option Value → gM → Prop} (N : Nat) (M : gM) : ∀ n : Nat, (∀ (a0 : Nat) (x1 : Int32) (x2 : Int32) (x3 : Int32), Tb M a0 → vX5_placeOf N M n 0 a0 x1 x2 x3 → Q (some (.int (wX5_placeOf N M n 0 a0 x1 x2 x3))) M → Go X (d + 1) mc ms kX5_placeOf Q 4 [(0, .ref a0), (1, .int (x1)), (2, .int (x2)), (3, .int (x3))] [] M 0 0) := by
  intro n
  induction n with
  | zero => exact fun _ _ _ _ _ h _ => h.elim
  | succ n ih =>
    intro a0 x1 x2 x3 s0 hT hQ
    rw [vX5_placeOf] at hT
    rw [wX5_placeOf] at hQ
    unfold bX5_placeOf_4 at hQ
    unfold eX5_placeOf_4 at hT
    obtain ⟨b4, b6, b7, hT⟩ := hT
    exact sX5_placeOf_4 (M := M) s0 (fun c1 c2 => by simp only [if_pos c1, if_pos c2] at hQ; exact hQ) (Nat.zero_le _) (Nat.zero_le _) b4 (fun c1 c2 => by simp only [if_pos c1, if_neg c2] at hQ; exact hQ) b6 b7 (fun c1 => by simp only [if_neg c1] at hQ hT; exact ih _ _ _ _ (s0) hT hQ)
def fX5_placeOf (N : Nat) (M : gM) (a0 : Nat) (x1 : Int32) : Int32 := (bX5_placeOf_0 N M a0 x1 (wX5_placeOf N M N))
def EX5_placeOf (N : Nat) (M : gM) (a0 : Nat) (x1 : Int32) : Prop := eX5_placeOf_0 N M a0 x1 (vX5_placeOf N M N)
theorem tX5_placeOf {N : Nat} {X : gX} {d mc ms : Nat} {Q : Option Value → gM → Prop} {M : gM} {a0 : Nat} {x1 : Int32} (s0 : Tb M a0) (hE : EX5_placeOf N M a0 x1) (hQ : Q (some (.int (fX5_placeOf N M a0 x1))) M) : Cn X (d + 1) mc ms kX5_placeOf [.ref a0, .int (x1)] M Q := by
  unfold fX5_placeOf at hQ
  unfold bX5_placeOf_0 at hQ
  unfold EX5_placeOf eX5_placeOf_0 at hE
  have hT := hE
  have ih := lpX5_placeOf (X := X) (d := d) (mc := mc) (ms := ms) (Q := Q) N M N
  exact sX5_placeOf_0 s0 (ih _ _ _ _ (s0) hT hQ)
/-! X5_numberOf  -/
set_option maxRecDepth 4000 in
theorem sX5_numberOf_0 {N : Nat} {X : gX} {d mc ms : Nat} {Q : Option Value → gM → Prop} {M : gM} {a0 : Nat} {x1 : Int32} (s0 : Tb M a0) (h1 : ((g_mi M a0 3) = 0) → Q (some (.int ((-1)))) M) (b2 : (¬ (g_mi M a0 3) = 0) → EX5_ownVertex N M a0 x1) (b3 : (¬ (g_mi M a0 3) = 0) → EX5_signsBelow N M a0 (fX5_ownVertex N M a0 x1)) (h4 : (¬ (g_mi M a0 3) = 0) → Q (some (.int ((fX5_signsBelow N M a0 (fX5_ownVertex N M a0 x1))))) M) : Cn X (d + 2) mc ms kX5_numberOf [.ref a0, .int (x1)] M Q := by
  refine g_meth rfl rfl (Nat.le_of_ble_eq_true rfl) rfl ?_
  refine g_aload_n 0 1 dX5_numberOf_0 rfl rfl ?_
  refine g_getI 4 dX5_numberOf_1 rfl flX5_25 s0.1 ?_
  refine g_if_eq 19 7 dX5_numberOf_4 rfl rfl (fun c1 => ?_) (fun c1 => ?_)
  · skip
    refine g_iconst ((-1)) 20 dX5_numberOf_19 rfl rfl ?_
    exact g_iret dX5_numberOf_20 rfl (Nat.zero_le _) (Nat.zero_le _) (h1 c1)
  · skip
    refine g_aload_n 0 8 dX5_numberOf_7 rfl rfl ?_
    refine g_aload_n 0 9 dX5_numberOf_8 rfl rfl ?_
    refine g_iload_n 1 10 dX5_numberOf_9 rfl rfl ?_
    refine g_callV (mc1 := 0) (ms1 := 0) (b := a0) (rest := [.ref a0]) (av := [.int (x1)]) kX5_ownVertex 13 dX5_numberOf_10 rfl rfl mbX5_81 imX5_ownVertex seX5_ownVertex gcl5.1 s0.1 (Nat.le_of_ble_eq_true rfl) (Nat.zero_le _) (Nat.zero_le _) (tX5_ownVertex (N := N) s0 (b2 c1) ?_)
    show Go X (d + 2) mc ms kX5_numberOf Q 13 [(0, .ref a0), (1, .int (x1))] [.int ((fX5_ownVertex N M a0 x1)), .ref a0] M 0 0
    refine g_callV (mc1 := 0) (ms1 := 0) (b := a0) (rest := []) (av := [.int ((fX5_ownVertex N M a0 x1))]) kX5_signsBelow 16 dX5_numberOf_13 rfl rfl mbX5_85 imX5_signsBelow seX5_signsBelow gcl5.1 s0.1 (Nat.le_of_ble_eq_true rfl) (Nat.zero_le _) (Nat.zero_le _) (tX5_signsBelow (N := N) s0 (b3 c1) ?_)
    show Go X (d + 2) mc ms kX5_numberOf Q 16 [(0, .ref a0), (1, .int (x1))] [.int ((fX5_signsBelow N M a0 (fX5_ownVertex N M a0 x1)))] M 0 0
    refine g_goto 20 dX5_numberOf_16 rfl ?_
    exact g_iret dX5_numberOf_20 rfl (Nat.zero_le _) (Nat.zero_le _) (h4 c1)

def fX5_numberOf (N : Nat) (M : gM) (a0 : Nat) (x1 : Int32) : Int32 := (if (g_mi M a0 3) = 0 then (-1) else (fX5_signsBelow N M a0 (fX5_ownVertex N M a0 x1)))
def EX5_numberOf (N : Nat) (M : gM) (a0 : Nat) (x1 : Int32) : Prop := ((¬ (g_mi M a0 3) = 0) → EX5_ownVertex N M a0 x1) ∧ ((¬ (g_mi M a0 3) = 0) → EX5_signsBelow N M a0 (fX5_ownVertex N M a0 x1))
theorem tX5_numberOf {N : Nat} {X : gX} {d mc ms : Nat} {Q : Option Value → gM → Prop} {M : gM} {a0 : Nat} {x1 : Int32} (s0 : Tb M a0) (hE : EX5_numberOf N M a0 x1) (hQ : Q (some (.int (fX5_numberOf N M a0 x1))) M) : Cn X (d + 2) mc ms kX5_numberOf [.ref a0, .int (x1)] M Q := by
  unfold fX5_numberOf at hQ
  obtain ⟨b2, b3⟩ := hE
  exact sX5_numberOf_0 s0 (fun c1 => by simp only [if_pos c1] at hQ; exact hQ) b2 b3 (fun c1 => by simp only [if_neg c1] at hQ; exact hQ)
/-! X5_packed  -/
set_option maxRecDepth 4000 in
theorem sX5_packed_0 {X : gX} {d mc ms : Nat} {Q : Option Value → gM → Prop} {M : gM} {a0 : Nat} {x1 : Int32} (s0 : Tb M a0) (h1 : (x1 < 0) → Q (some (.int ((-1)))) M) (h2 : (¬ x1 < 0) → (60 ≤ x1) → Q (some (.int ((-1)))) M) (b3 : (¬ x1 < 0) → (¬ 60 ≤ x1) → EX5_signAt M a0 (4 * x1)) (h4 : (¬ x1 < 0) → (¬ 60 ≤ x1) → (¬ (fX5_signAt M a0 (4 * x1)) = (-1)) → Go X (d + 1) mc ms kX5_packed Q 27 [(0, .ref a0), (1, .int (x1)), (2, .int (0)), (3, .int (3))] [] M 0 0) (h5 : (¬ x1 < 0) → (¬ 60 ≤ x1) → ((fX5_signAt M a0 (4 * x1)) = (-1)) → Q (some (.int ((-1)))) M) : Cn X (d + 1) mc ms kX5_packed [.ref a0, .int (x1)] M Q := by
  refine g_meth rfl rfl (Nat.le_of_ble_eq_true rfl) rfl ?_
  refine g_iload_n 1 1 dX5_packed_0 rfl rfl ?_
  refine g_if_lt 21 4 dX5_packed_1 rfl rfl (fun c1 => ?_) (fun c1 => ?_)
  · skip
    refine g_iconst ((-1)) 22 dX5_packed_21 rfl rfl ?_
    exact g_iret dX5_packed_22 rfl (Nat.zero_le _) (Nat.zero_le _) (h1 c1)
  · skip
    refine g_iload_n 1 5 dX5_packed_4 rfl rfl ?_
    refine g_bipush (60) 7 dX5_packed_5 rfl rfl ?_
    refine g_icmp_ge 21 10 dX5_packed_7 rfl rfl (fun c2 => ?_) (fun c2 => ?_)
    · skip
      refine g_iconst ((-1)) 22 dX5_packed_21 rfl rfl ?_
      exact g_iret dX5_packed_22 rfl (Nat.zero_le _) (Nat.zero_le _) (h2 c1 c2)
    · skip
      refine g_aload_n 0 11 dX5_packed_10 rfl rfl ?_
      refine g_iconst (4) 12 dX5_packed_11 rfl rfl ?_
      refine g_iload_n 1 13 dX5_packed_12 rfl rfl ?_
      refine g_imul 14 dX5_packed_13 rfl ?_
      refine g_callV (mc1 := 0) (ms1 := 0) (b := a0) (rest := []) (av := [.int ((4 * x1))]) kX5_signAt 17 dX5_packed_14 rfl rfl mbX5_88 imX5_signAt seX5_signAt gcl5.1 s0.1 (Nat.le_of_ble_eq_true rfl) (Nat.zero_le _) (Nat.zero_le _) (tX5_signAt s0 (b3 c1 c2) ?_)
      show Go X (d + 1) mc ms kX5_packed Q 17 [(0, .ref a0), (1, .int (x1))] [.int ((fX5_signAt M a0 (4 * x1)))] M 0 0
      refine g_iconst ((-1)) 18 dX5_packed_17 rfl rfl ?_
      refine g_icmp_ne 23 21 dX5_packed_18 rfl rfl (fun c3 => ?_) (fun c3 => ?_)
      · skip
        refine g_iconst (0) 24 dX5_packed_23 rfl rfl ?_
        refine g_istore_n 25 [(2, .int (0)), (0, .ref a0), (1, .int (x1))] dX5_packed_24 rfl (Nat.le_of_ble_eq_true rfl) rfl ?_
        refine g_iconst (3) 26 dX5_packed_25 rfl rfl ?_
        refine g_istore_n 27 [(3, .int (3)), (2, .int (0)), (0, .ref a0), (1, .int (x1))] dX5_packed_26 rfl (Nat.le_of_ble_eq_true rfl) rfl ?_
        exact g_sub [2, 3, 1, 0] _ rfl (h4 c1 c2 c3)
      · skip
        refine g_iconst ((-1)) 22 dX5_packed_21 rfl rfl ?_
        exact g_iret dX5_packed_22 rfl (Nat.zero_le _) (Nat.zero_le _) (h5 c1 c2 c3)

set_option maxRecDepth 4000 in
theorem sX5_packed_27 {X : gX} {d mc ms : Nat} {Q : Option Value → gM → Prop} {M : gM} {c z : Nat} {a0 : Nat} {x1 : Int32} {x2 : Int32} {x3 : Int32} (s0 : Tb M a0) (h1 : (x3 < 0) → Q (some (.int (x2))) M) (w2 : c ≤ mc) (w3 : z ≤ ms) (b4 : (¬ x3 < 0) → EX5_signAt M a0 ((4 * x1) + x3)) (h5 : (¬ x3 < 0) → (¬ (fX5_signAt M a0 ((4 * x1) + x3)) = (-1)) → Go X (d + 1) mc ms kX5_packed Q 27 [(0, .ref a0), (1, .int (x1)), (2, .int (((x2 * 4) + (fX5_signAt M a0 ((4 * x1) + x3))))), (3, .int ((x3 + (-1))))] [] M c z) (h6 : (¬ x3 < 0) → ((fX5_signAt M a0 ((4 * x1) + x3)) = (-1)) → Go X (d + 1) mc ms kX5_packed Q 27 [(0, .ref a0), (1, .int (x1)), (2, .int (((x2 * 4) + 3))), (3, .int ((x3 + (-1))))] [] M c z) : Go X (d + 1) mc ms kX5_packed Q 27 [(0, .ref a0), (1, .int (x1)), (2, .int (x2)), (3, .int (x3))] [] M c z := by
  refine g_iload_n 3 28 dX5_packed_27 rfl rfl ?_
  refine g_if_lt 65 31 dX5_packed_28 rfl rfl (fun c1 => ?_) (fun c1 => ?_)
  · skip
    refine g_iload_n 2 66 dX5_packed_65 rfl rfl ?_
    exact g_iret dX5_packed_66 rfl (w2) (w3) (h1 c1)
  · skip
    refine g_aload_n 0 32 dX5_packed_31 rfl rfl ?_
    refine g_iconst (4) 33 dX5_packed_32 rfl rfl ?_
    refine g_iload_n 1 34 dX5_packed_33 rfl rfl ?_
    refine g_imul 35 dX5_packed_34 rfl ?_
    refine g_iload_n 3 36 dX5_packed_35 rfl rfl ?_
    refine g_iadd 37 dX5_packed_36 rfl ?_
    refine g_callV (mc1 := 0) (ms1 := 0) (b := a0) (rest := []) (av := [.int (((4 * x1) + x3))]) kX5_signAt 40 dX5_packed_37 rfl rfl mbX5_88 imX5_signAt seX5_signAt gcl5.1 s0.1 (Nat.le_of_ble_eq_true rfl) (w2) (w3) (tX5_signAt s0 (b4 c1) ?_)
    show Go X (d + 1) mc ms kX5_packed Q 40 [(0, .ref a0), (1, .int (x1)), (2, .int (x2)), (3, .int (x3))] [.int ((fX5_signAt M a0 ((4 * x1) + x3)))] M c z
    refine g_istore 42 [(4, .int ((fX5_signAt M a0 ((4 * x1) + x3)))), (0, .ref a0), (1, .int (x1)), (2, .int (x2)), (3, .int (x3))] dX5_packed_40 rfl (Nat.le_of_ble_eq_true rfl) rfl ?_
    refine g_iload_n 3 43 dX5_packed_42 rfl rfl ?_
    refine g_iconst (4) 44 dX5_packed_43 rfl rfl ?_
    refine g_imul 45 dX5_packed_44 rfl ?_
    refine g_iload 0 47 dX5_packed_45 rfl rfl ?_
    refine g_iconst ((-1)) 48 dX5_packed_47 rfl rfl ?_
    refine g_icmp_ne 55 51 dX5_packed_48 rfl rfl (fun c2 => ?_) (fun c2 => ?_)
    · skip
      refine g_iload 0 57 dX5_packed_55 rfl rfl ?_
      refine g_iadd 58 dX5_packed_57 rfl ?_
      refine g_istore_n 59 [(2, .int (((x2 * 4) + (fX5_signAt M a0 ((4 * x1) + x3))))), (4, .int ((fX5_signAt M a0 ((4 * x1) + x3)))), (0, .ref a0), (1, .int (x1)), (3, .int (x3))] dX5_packed_58 rfl (Nat.le_of_ble_eq_true rfl) rfl ?_
      refine g_iinc _ 4 62 [(3, .int ((x3 + (-1)))), (2, .int (((x2 * 4) + (fX5_signAt M a0 ((4 * x1) + x3))))), (4, .int ((fX5_signAt M a0 ((4 * x1) + x3)))), (0, .ref a0), (1, .int (x1))] dX5_packed_59 rfl rfl rfl (Nat.le_of_ble_eq_true rfl) rfl ?_
      refine g_goto 27 dX5_packed_62 rfl ?_
      exact g_sub [3, 4, 1, 0] _ rfl (h5 c1 c2)
    · skip
      refine g_iconst (3) 52 dX5_packed_51 rfl rfl ?_
      refine g_goto 57 dX5_packed_52 rfl ?_
      refine g_iadd 58 dX5_packed_57 rfl ?_
      refine g_istore_n 59 [(2, .int (((x2 * 4) + 3))), (4, .int ((fX5_signAt M a0 ((4 * x1) + x3)))), (0, .ref a0), (1, .int (x1)), (3, .int (x3))] dX5_packed_58 rfl (Nat.le_of_ble_eq_true rfl) rfl ?_
      refine g_iinc _ 4 62 [(3, .int ((x3 + (-1)))), (2, .int (((x2 * 4) + 3))), (4, .int ((fX5_signAt M a0 ((4 * x1) + x3)))), (0, .ref a0), (1, .int (x1))] dX5_packed_59 rfl rfl rfl (Nat.le_of_ble_eq_true rfl) rfl ?_
      refine g_goto 27 dX5_packed_62 rfl ?_
      exact g_sub [3, 4, 1, 0] _ rfl (h6 c1 c2)

def bX5_packed_0 (N : Nat) (M : gM) (a0 : Nat) (x1 : Int32) (k : Nat → Nat → Int32 → Int32 → Int32 → Int32) : Int32 := (if x1 < 0 then (-1) else (if 60 ≤ x1 then (-1) else (if (fX5_signAt M a0 (4 * x1)) = (-1) then (-1) else (k 0 a0 x1 0 3))))
def eX5_packed_0 (N : Nat) (M : gM) (a0 : Nat) (x1 : Int32) (k : Nat → Nat → Int32 → Int32 → Int32 → Prop) : Prop := ((¬ x1 < 0) → (¬ 60 ≤ x1) → EX5_signAt M a0 (4 * x1)) ∧ (if x1 < 0 then True else (if 60 ≤ x1 then True else (if (fX5_signAt M a0 (4 * x1)) = (-1) then True else (k 0 a0 x1 0 3))))
def bX5_packed_27 (N : Nat) (M : gM) (a0 : Nat) (x1 : Int32) (x2 : Int32) (x3 : Int32) (k : Nat → Nat → Int32 → Int32 → Int32 → Int32) : Int32 := (if x3 < 0 then x2 else (if (fX5_signAt M a0 ((4 * x1) + x3)) = (-1) then (k 0 a0 x1 ((x2 * 4) + 3) (x3 + (-1))) else (k 0 a0 x1 ((x2 * 4) + (fX5_signAt M a0 ((4 * x1) + x3))) (x3 + (-1)))))
def eX5_packed_27 (N : Nat) (M : gM) (a0 : Nat) (x1 : Int32) (x2 : Int32) (x3 : Int32) (k : Nat → Nat → Int32 → Int32 → Int32 → Prop) : Prop := ((¬ x3 < 0) → EX5_signAt M a0 ((4 * x1) + x3)) ∧ (if x3 < 0 then True else (if (fX5_signAt M a0 ((4 * x1) + x3)) = (-1) then (k 0 a0 x1 ((x2 * 4) + 3) (x3 + (-1))) else (k 0 a0 x1 ((x2 * 4) + (fX5_signAt M a0 ((4 * x1) + x3))) (x3 + (-1)))))
def wX5_packed (N : Nat) (M : gM) : Nat → Nat → Nat → Int32 → Int32 → Int32 → Int32
  | 0, _, _, _, _, _ => 0
  | n + 1, h, a0, x1, x2, x3 => bX5_packed_27 N M a0 x1 x2 x3 (wX5_packed N M n)
def vX5_packed (N : Nat) (M : gM) : Nat → Nat → Nat → Int32 → Int32 → Int32 → Prop
  | 0, _, _, _, _, _ => False
  | n + 1, h, a0, x1, x2, x3 => eX5_packed_27 N M a0 x1 x2 x3 (vX5_packed N M n)
set_option maxRecDepth 10000 in
theorem lpX5_packed {X : gX} {d mc ms : Nat} {Q : Option Value → gM → Prop} (N : Nat) (M : gM) : ∀ n : Nat, (∀ (a0 : Nat) (x1 : Int32) (x2 : Int32) (x3 : Int32), Tb M a0 → vX5_packed N M n 0 a0 x1 x2 x3 → Q (some (.int (wX5_packed N M n 0 a0 x1 x2 x3))) M → Go X (d + 1) mc ms kX5_packed Q 27 [(0, .ref a0), (1, .int (x1)), (2, .int (x2)), (3, .int (x3))] [] M 0 0) := by
  intro n
  induction n with
  | zero => exact fun _ _ _ _ _ h _ => h.elim
  | succ n ih =>
    intro a0 x1 x2 x3 s0 hT hQ
    rw [vX5_packed] at hT
    rw [wX5_packed] at hQ
    unfold bX5_packed_27 at hQ
    unfold eX5_packed_27 at hT
    obtain ⟨b4, hT⟩ := hT
    exact sX5_packed_27 (M := M) s0 (fun c1 => by simp only [if_pos c1] at hQ; exact hQ) (Nat.zero_le _) (Nat.zero_le _) b4 (fun c1 c2 => by simp only [if_neg c1, if_neg c2] at hQ hT; exact ih _ _ _ _ (s0) hT hQ) (fun c1 c2 => by simp only [if_neg c1, if_pos c2] at hQ hT; exact ih _ _ _ _ (s0) hT hQ)
def fX5_packed (N : Nat) (M : gM) (a0 : Nat) (x1 : Int32) : Int32 := (bX5_packed_0 N M a0 x1 (wX5_packed N M N))
def EX5_packed (N : Nat) (M : gM) (a0 : Nat) (x1 : Int32) : Prop := eX5_packed_0 N M a0 x1 (vX5_packed N M N)
theorem tX5_packed {N : Nat} {X : gX} {d mc ms : Nat} {Q : Option Value → gM → Prop} {M : gM} {a0 : Nat} {x1 : Int32} (s0 : Tb M a0) (hE : EX5_packed N M a0 x1) (hQ : Q (some (.int (fX5_packed N M a0 x1))) M) : Cn X (d + 1) mc ms kX5_packed [.ref a0, .int (x1)] M Q := by
  unfold fX5_packed at hQ
  unfold bX5_packed_0 at hQ
  unfold EX5_packed eX5_packed_0 at hE
  obtain ⟨b3, hT⟩ := hE
  have ih := lpX5_packed (X := X) (d := d) (mc := mc) (ms := ms) (Q := Q) N M N
  exact sX5_packed_0 s0 (fun c1 => by simp only [if_pos c1] at hQ; exact hQ) (fun c1 c2 => by simp only [if_neg c1, if_pos c2] at hQ; exact hQ) b3 (fun c1 c2 c3 => by simp only [if_neg c1, if_neg c2, if_neg c3] at hQ hT; exact ih _ _ _ _ (s0) hT hQ) (fun c1 c2 c3 => by simp only [if_neg c1, if_neg c2, if_pos c3] at hQ; exact hQ)
/-! X1_leastFree  -/
set_option maxRecDepth 4000 in
theorem sX1_leastFree_0 {X : gX} {d mc ms : Nat} {Q : Option Value → gM → Prop} {M : gM} {a0 : Nat} {x1 : Int32} (s0 : Pe M a0) (h1 : Go X d mc ms kX1_leastFree Q 4 [(0, .ref a0), (1, .int (x1)), (2, .int ((-1))), (3, .int (0))] [] M 0 0) : Cn X d mc ms kX1_leastFree [.ref a0, .int (x1)] M Q := by
  refine g_meth rfl rfl (Nat.le_of_ble_eq_true rfl) rfl ?_
  refine g_iconst ((-1)) 1 dX1_leastFree_0 rfl rfl ?_
  refine g_istore_n 2 [(2, .int ((-1))), (0, .ref a0), (1, .int (x1))] dX1_leastFree_1 rfl (Nat.le_of_ble_eq_true rfl) rfl ?_
  refine g_iconst (0) 3 dX1_leastFree_2 rfl rfl ?_
  refine g_istore_n 4 [(3, .int (0)), (2, .int ((-1))), (0, .ref a0), (1, .int (x1))] dX1_leastFree_3 rfl (Nat.le_of_ble_eq_true rfl) rfl ?_
  exact g_sub [2, 3, 1, 0] _ rfl (h1)

set_option maxRecDepth 4000 in
theorem sX1_leastFree_4 {X : gX} {d mc ms : Nat} {Q : Option Value → gM → Prop} {M : gM} {c z : Nat} {a0 : Nat} {x1 : Int32} {x2 : Int32} {x3 : Int32} (s0 : Pe M a0) (h1 : (x1 ≤ x3) → Q (some (.int (x2))) M) (w2 : c ≤ mc) (w3 : z ≤ ms) (b4 : (¬ x1 ≤ x3) → vp_in (x3) 60) (h5 : (¬ x1 ≤ x3) → (¬ (g_mi M (a0 + 4) (x3).toNatClampNeg) = 1) → Go X d mc ms kX1_leastFree Q 4 [(0, .ref a0), (1, .int (x1)), (2, .int (x2)), (3, .int ((x3 + 1)))] [] M c z) (h6 : (¬ x1 ≤ x3) → ((g_mi M (a0 + 4) (x3).toNatClampNeg) = 1) → (x2 = (-1)) → Go X d mc ms kX1_leastFree Q 4 [(0, .ref a0), (1, .int (x1)), (2, .int (x3)), (3, .int ((x3 + 1)))] [] M c z) (b7 : (¬ x1 ≤ x3) → ((g_mi M (a0 + 4) (x3).toNatClampNeg) = 1) → (¬ x2 = (-1)) → vp_in (x3) 60) (b8 : (¬ x1 ≤ x3) → ((g_mi M (a0 + 4) (x3).toNatClampNeg) = 1) → (¬ x2 = (-1)) → vp_in (x2) 60) (h9 : (¬ x1 ≤ x3) → ((g_mi M (a0 + 4) (x3).toNatClampNeg) = 1) → (¬ x2 = (-1)) → ((g_mi M (a0 + 6) (x2).toNatClampNeg) ≤ (g_mi M (a0 + 6) (x3).toNatClampNeg)) → Go X d mc ms kX1_leastFree Q 4 [(0, .ref a0), (1, .int (x1)), (2, .int (x2)), (3, .int ((x3 + 1)))] [] M c z) (h10 : (¬ x1 ≤ x3) → ((g_mi M (a0 + 4) (x3).toNatClampNeg) = 1) → (¬ x2 = (-1)) → (¬ (g_mi M (a0 + 6) (x2).toNatClampNeg) ≤ (g_mi M (a0 + 6) (x3).toNatClampNeg)) → Go X d mc ms kX1_leastFree Q 4 [(0, .ref a0), (1, .int (x1)), (2, .int (x3)), (3, .int ((x3 + 1)))] [] M c z) : Go X d mc ms kX1_leastFree Q 4 [(0, .ref a0), (1, .int (x1)), (2, .int (x2)), (3, .int (x3))] [] M c z := by
  refine g_iload_n 3 5 dX1_leastFree_4 rfl rfl ?_
  refine g_iload_n 1 6 dX1_leastFree_5 rfl rfl ?_
  refine g_icmp_ge 47 9 dX1_leastFree_6 rfl rfl (fun c1 => ?_) (fun c1 => ?_)
  · skip
    refine g_iload_n 2 48 dX1_leastFree_47 rfl rfl ?_
    exact g_iret dX1_leastFree_48 rfl (w2) (w3) (h1 c1)
  · skip
    refine g_aload_n 0 10 dX1_leastFree_9 rfl rfl ?_
    refine g_getR 13 (a0 + 4) dX1_leastFree_10 rfl flX1_21 s0.1 s0.2.2.2.2.2.2.2.1 ?_
    refine g_iload_n 3 14 dX1_leastFree_13 rfl rfl ?_
    refine h_iaload 15 (x3).toNatClampNeg dX1_leastFree_14 rfl rfl s0.2.2.2.2.2.2.2.2.1 (b4 c1) ?_
    refine g_iconst (1) 16 dX1_leastFree_15 rfl rfl ?_
    refine g_icmp_ne 41 19 dX1_leastFree_16 rfl rfl (fun c2 => ?_) (fun c2 => ?_)
    · skip
      refine g_iinc _ 3 44 [(3, .int ((x3 + 1))), (0, .ref a0), (1, .int (x1)), (2, .int (x2))] dX1_leastFree_41 rfl rfl rfl (Nat.le_of_ble_eq_true rfl) rfl ?_
      refine g_goto 4 dX1_leastFree_44 rfl ?_
      exact g_sub [1, 2, 3, 0] _ rfl (h5 c1 c2)
    · skip
      refine g_iload_n 2 20 dX1_leastFree_19 rfl rfl ?_
      refine g_iconst ((-1)) 21 dX1_leastFree_20 rfl rfl ?_
      refine g_icmp_eq 39 24 dX1_leastFree_21 rfl rfl (fun c3 => ?_) (fun c3 => ?_)
      · skip
        refine g_iload_n 3 40 dX1_leastFree_39 rfl rfl ?_
        refine g_istore_n 41 [(2, .int (x3)), (0, .ref a0), (1, .int (x1)), (3, .int (x3))] dX1_leastFree_40 rfl (Nat.le_of_ble_eq_true rfl) rfl ?_
        refine g_iinc _ 3 44 [(3, .int ((x3 + 1))), (2, .int (x3)), (0, .ref a0), (1, .int (x1))] dX1_leastFree_41 rfl rfl rfl (Nat.le_of_ble_eq_true rfl) rfl ?_
        refine g_goto 4 dX1_leastFree_44 rfl ?_
        exact g_sub [2, 3, 1, 0] _ rfl (h6 c1 c2 c3)
      · skip
        refine g_aload_n 0 25 dX1_leastFree_24 rfl rfl ?_
        refine g_getR 28 (a0 + 6) dX1_leastFree_25 rfl flX1_27 s0.1 s0.2.2.2.2.2.2.2.2.2.2.2.1 ?_
        refine g_iload_n 3 29 dX1_leastFree_28 rfl rfl ?_
        refine h_iaload 30 (x3).toNatClampNeg dX1_leastFree_29 rfl rfl s0.2.2.2.2.2.2.2.2.2.2.2.2.1 (b7 c1 c2 c3) ?_
        refine g_aload_n 0 31 dX1_leastFree_30 rfl rfl ?_
        refine g_getR 34 (a0 + 6) dX1_leastFree_31 rfl flX1_27 s0.1 s0.2.2.2.2.2.2.2.2.2.2.2.1 ?_
        refine g_iload_n 2 35 dX1_leastFree_34 rfl rfl ?_
        refine h_iaload 36 (x2).toNatClampNeg dX1_leastFree_35 rfl rfl s0.2.2.2.2.2.2.2.2.2.2.2.2.1 (b8 c1 c2 c3) ?_
        refine g_icmp_ge 41 39 dX1_leastFree_36 rfl rfl (fun c4 => ?_) (fun c4 => ?_)
        · skip
          refine g_iinc _ 3 44 [(3, .int ((x3 + 1))), (0, .ref a0), (1, .int (x1)), (2, .int (x2))] dX1_leastFree_41 rfl rfl rfl (Nat.le_of_ble_eq_true rfl) rfl ?_
          refine g_goto 4 dX1_leastFree_44 rfl ?_
          exact g_sub [1, 2, 3, 0] _ rfl (h9 c1 c2 c3 c4)
        · skip
          refine g_iload_n 3 40 dX1_leastFree_39 rfl rfl ?_
          refine g_istore_n 41 [(2, .int (x3)), (0, .ref a0), (1, .int (x1)), (3, .int (x3))] dX1_leastFree_40 rfl (Nat.le_of_ble_eq_true rfl) rfl ?_
          refine g_iinc _ 3 44 [(3, .int ((x3 + 1))), (2, .int (x3)), (0, .ref a0), (1, .int (x1))] dX1_leastFree_41 rfl rfl rfl (Nat.le_of_ble_eq_true rfl) rfl ?_
          refine g_goto 4 dX1_leastFree_44 rfl ?_
          exact g_sub [2, 3, 1, 0] _ rfl (h10 c1 c2 c3 c4)

def bX1_leastFree_0 (N : Nat) (M : gM) (a0 : Nat) (x1 : Int32) (k : Nat → Nat → Int32 → Int32 → Int32 → Int32) : Int32 := (k 0 a0 x1 (-1) 0)
def eX1_leastFree_0 (N : Nat) (M : gM) (a0 : Nat) (x1 : Int32) (k : Nat → Nat → Int32 → Int32 → Int32 → Prop) : Prop := (k 0 a0 x1 (-1) 0)
def bX1_leastFree_4 (N : Nat) (M : gM) (a0 : Nat) (x1 : Int32) (x2 : Int32) (x3 : Int32) (k : Nat → Nat → Int32 → Int32 → Int32 → Int32) : Int32 := (if x1 ≤ x3 then x2 else (if (g_mi M (a0 + 4) (x3).toNatClampNeg) = 1 then (if x2 = (-1) then (k 0 a0 x1 x3 (x3 + 1)) else (if (g_mi M (a0 + 6) (x2).toNatClampNeg) ≤ (g_mi M (a0 + 6) (x3).toNatClampNeg) then (k 0 a0 x1 x2 (x3 + 1)) else (k 0 a0 x1 x3 (x3 + 1)))) else (k 0 a0 x1 x2 (x3 + 1))))
def eX1_leastFree_4 (N : Nat) (M : gM) (a0 : Nat) (x1 : Int32) (x2 : Int32) (x3 : Int32) (k : Nat → Nat → Int32 → Int32 → Int32 → Prop) : Prop := ((¬ x1 ≤ x3) → vp_in (x3) 60) ∧ ((¬ x1 ≤ x3) → ((g_mi M (a0 + 4) (x3).toNatClampNeg) = 1) → (¬ x2 = (-1)) → vp_in (x3) 60) ∧ ((¬ x1 ≤ x3) → ((g_mi M (a0 + 4) (x3).toNatClampNeg) = 1) → (¬ x2 = (-1)) → vp_in (x2) 60) ∧ (if x1 ≤ x3 then True else (if (g_mi M (a0 + 4) (x3).toNatClampNeg) = 1 then (if x2 = (-1) then (k 0 a0 x1 x3 (x3 + 1)) else (if (g_mi M (a0 + 6) (x2).toNatClampNeg) ≤ (g_mi M (a0 + 6) (x3).toNatClampNeg) then (k 0 a0 x1 x2 (x3 + 1)) else (k 0 a0 x1 x3 (x3 + 1)))) else (k 0 a0 x1 x2 (x3 + 1))))
def wX1_leastFree (N : Nat) (M : gM) : Nat → Nat → Nat → Int32 → Int32 → Int32 → Int32
  | 0, _, _, _, _, _ => 0
  | n + 1, h, a0, x1, x2, x3 => bX1_leastFree_4 N M a0 x1 x2 x3 (wX1_leastFree N M n)
def vX1_leastFree (N : Nat) (M : gM) : Nat → Nat → Nat → Int32 → Int32 → Int32 → Prop
  | 0, _, _, _, _, _ => False
  | n + 1, h, a0, x1, x2, x3 => eX1_leastFree_4 N M a0 x1 x2 x3 (vX1_leastFree N M n)
set_option maxRecDepth 10000 in
theorem lpX1_leastFree {X : gX} {d mc ms : Nat} {Q : Option Value → gM → Prop} (N : Nat) (M : gM) : ∀ n : Nat, (∀ (a0 : Nat) (x1 : Int32) (x2 : Int32) (x3 : Int32), Pe M a0 → vX1_leastFree N M n 0 a0 x1 x2 x3 → Q (some (.int (wX1_leastFree N M n 0 a0 x1 x2 x3))) M → Go X d mc ms kX1_leastFree Q 4 [(0, .ref a0), (1, .int (x1)), (2, .int (x2)), (3, .int (x3))] [] M 0 0) := by
  intro n
  induction n with
  | zero => exact fun _ _ _ _ _ h _ => h.elim
  | succ n ih =>
    intro a0 x1 x2 x3 s0 hT hQ
    rw [vX1_leastFree] at hT
    rw [wX1_leastFree] at hQ
    unfold bX1_leastFree_4 at hQ
    unfold eX1_leastFree_4 at hT
    obtain ⟨b4, b7, b8, hT⟩ := hT
    exact sX1_leastFree_4 (M := M) s0 (fun c1 => by simp only [if_pos c1] at hQ; exact hQ) (Nat.zero_le _) (Nat.zero_le _) b4 (fun c1 c2 => by simp only [if_neg c1, if_neg c2] at hQ hT; exact ih _ _ _ _ (s0) hT hQ) (fun c1 c2 c3 => by simp only [if_neg c1, if_pos c2, if_pos c3] at hQ hT; exact ih _ _ _ _ (s0) hT hQ) b7 b8 (fun c1 c2 c3 c4 => by simp only [if_neg c1, if_pos c2, if_neg c3, if_pos c4] at hQ hT; exact ih _ _ _ _ (s0) hT hQ) (fun c1 c2 c3 c4 => by simp only [if_neg c1, if_pos c2, if_neg c3, if_neg c4] at hQ hT; exact ih _ _ _ _ (s0) hT hQ)
def fX1_leastFree (N : Nat) (M : gM) (a0 : Nat) (x1 : Int32) : Int32 := (bX1_leastFree_0 N M a0 x1 (wX1_leastFree N M N))
def EX1_leastFree (N : Nat) (M : gM) (a0 : Nat) (x1 : Int32) : Prop := eX1_leastFree_0 N M a0 x1 (vX1_leastFree N M N)
theorem tX1_leastFree {N : Nat} {X : gX} {d mc ms : Nat} {Q : Option Value → gM → Prop} {M : gM} {a0 : Nat} {x1 : Int32} (s0 : Pe M a0) (hE : EX1_leastFree N M a0 x1) (hQ : Q (some (.int (fX1_leastFree N M a0 x1))) M) : Cn X d mc ms kX1_leastFree [.ref a0, .int (x1)] M Q := by
  unfold fX1_leastFree at hQ
  unfold bX1_leastFree_0 at hQ
  unfold EX1_leastFree eX1_leastFree_0 at hE
  have hT := hE
  have ih := lpX1_leastFree (X := X) (d := d) (mc := mc) (ms := ms) (Q := Q) N M N
  exact sX1_leastFree_0 s0 (ih _ _ _ _ (s0) hT hQ)
/-! X1_letGo  -/
set_option maxRecDepth 4000 in
theorem sX1_letGo_0 {X : gX} {d mc ms : Nat} {Q : Option Value → gM → Prop} {M : gM} {a0 : Nat} {x1 : Int32} {x2 : Int32} (s0 : Pe M a0) (h1 : Go X d mc ms kX1_letGo Q 5 [(0, .ref a0), (1, .int (x1)), (3, .int (x2)), (4, .int (0))] [] M 0 0) : Cn X d mc ms kX1_letGo [.ref a0, .int (x1), .int (x2)] M Q := by
  refine g_meth rfl rfl (Nat.le_of_ble_eq_true rfl) rfl ?_
  refine g_iload_n 2 1 dX1_letGo_0 rfl rfl ?_
  refine g_istore_n 2 [(3, .int (x2)), (0, .ref a0), (1, .int (x1)), (2, .int (x2))] dX1_letGo_1 rfl (Nat.le_of_ble_eq_true rfl) rfl ?_
  refine g_iconst (0) 3 dX1_letGo_2 rfl rfl ?_
  refine g_istore 5 [(4, .int (0)), (3, .int (x2)), (0, .ref a0), (1, .int (x1)), (2, .int (x2))] dX1_letGo_3 rfl (Nat.le_of_ble_eq_true rfl) rfl ?_
  exact g_sub [2, 3, 1, 0] _ rfl (h1)

set_option maxRecDepth 4000 in
theorem sX1_letGo_5 {X : gX} {d mc ms : Nat} {Q : Option Value → gM → Prop} {M : gM} {c z : Nat} {a0 : Nat} {x1 : Int32} {x3 : Int32} {x4 : Int32} (s0 : Pe M a0) (h1 : (3 ≤ x4) → Q (some (.int (x3))) M) (w2 : c ≤ mc) (w3 : z ≤ ms) (b4 : (¬ 3 ≤ x4) → vp_in (((3 * x1) + x4)) 90) (b5 : (¬ 3 ≤ x4) → vp_in ((g_mi M (a0 + 1) (((3 * x1) + x4)).toNatClampNeg)) 60) (h6 : (¬ 3 ≤ x4) → (¬ (g_mi (g_wi (g_wi M (a0 + 4) ((g_mi M (a0 + 1) (((3 * x1) + x4)).toNatClampNeg)).toNatClampNeg ((g_mi M (a0 + 4) ((g_mi M (a0 + 1) (((3 * x1) + x4)).toNatClampNeg)).toNatClampNeg) - 1)) (a0 + 5) ((g_mi M (a0 + 1) (((3 * x1) + x4)).toNatClampNeg)).toNatClampNeg ((g_mi (g_wi M (a0 + 4) ((g_mi M (a0 + 1) (((3 * x1) + x4)).toNatClampNeg)).toNatClampNeg ((g_mi M (a0 + 4) ((g_mi M (a0 + 1) (((3 * x1) + x4)).toNatClampNeg)).toNatClampNeg) - 1)) (a0 + 5) ((g_mi M (a0 + 1) (((3 * x1) + x4)).toNatClampNeg)).toNatClampNeg) ^^^ x1)) (a0 + 4) ((g_mi M (a0 + 1) (((3 * x1) + x4)).toNatClampNeg)).toNatClampNeg) = 1) → Go X d mc ms kX1_letGo Q 5 [(0, .ref a0), (1, .int (x1)), (3, .int (x3)), (4, .int ((x4 + 1)))] [] (g_wi (g_wi M (a0 + 4) ((g_mi M (a0 + 1) (((3 * x1) + x4)).toNatClampNeg)).toNatClampNeg ((g_mi M (a0 + 4) ((g_mi M (a0 + 1) (((3 * x1) + x4)).toNatClampNeg)).toNatClampNeg) - 1)) (a0 + 5) ((g_mi M (a0 + 1) (((3 * x1) + x4)).toNatClampNeg)).toNatClampNeg ((g_mi (g_wi M (a0 + 4) ((g_mi M (a0 + 1) (((3 * x1) + x4)).toNatClampNeg)).toNatClampNeg ((g_mi M (a0 + 4) ((g_mi M (a0 + 1) (((3 * x1) + x4)).toNatClampNeg)).toNatClampNeg) - 1)) (a0 + 5) ((g_mi M (a0 + 1) (((3 * x1) + x4)).toNatClampNeg)).toNatClampNeg) ^^^ x1)) c z) (h7 : (¬ 3 ≤ x4) → ((g_mi (g_wi (g_wi M (a0 + 4) ((g_mi M (a0 + 1) (((3 * x1) + x4)).toNatClampNeg)).toNatClampNeg ((g_mi M (a0 + 4) ((g_mi M (a0 + 1) (((3 * x1) + x4)).toNatClampNeg)).toNatClampNeg) - 1)) (a0 + 5) ((g_mi M (a0 + 1) (((3 * x1) + x4)).toNatClampNeg)).toNatClampNeg ((g_mi (g_wi M (a0 + 4) ((g_mi M (a0 + 1) (((3 * x1) + x4)).toNatClampNeg)).toNatClampNeg ((g_mi M (a0 + 4) ((g_mi M (a0 + 1) (((3 * x1) + x4)).toNatClampNeg)).toNatClampNeg) - 1)) (a0 + 5) ((g_mi M (a0 + 1) (((3 * x1) + x4)).toNatClampNeg)).toNatClampNeg) ^^^ x1)) (a0 + 4) ((g_mi M (a0 + 1) (((3 * x1) + x4)).toNatClampNeg)).toNatClampNeg) = 1) → (63 ≤ x3) → Go X d mc ms kX1_letGo Q 5 [(0, .ref a0), (1, .int (x1)), (3, .int (x3)), (4, .int ((x4 + 1)))] [] (g_wi (g_wi M (a0 + 4) ((g_mi M (a0 + 1) (((3 * x1) + x4)).toNatClampNeg)).toNatClampNeg ((g_mi M (a0 + 4) ((g_mi M (a0 + 1) (((3 * x1) + x4)).toNatClampNeg)).toNatClampNeg) - 1)) (a0 + 5) ((g_mi M (a0 + 1) (((3 * x1) + x4)).toNatClampNeg)).toNatClampNeg ((g_mi (g_wi M (a0 + 4) ((g_mi M (a0 + 1) (((3 * x1) + x4)).toNatClampNeg)).toNatClampNeg ((g_mi M (a0 + 4) ((g_mi M (a0 + 1) (((3 * x1) + x4)).toNatClampNeg)).toNatClampNeg) - 1)) (a0 + 5) ((g_mi M (a0 + 1) (((3 * x1) + x4)).toNatClampNeg)).toNatClampNeg) ^^^ x1)) c z) (b8 : (¬ 3 ≤ x4) → ((g_mi (g_wi (g_wi M (a0 + 4) ((g_mi M (a0 + 1) (((3 * x1) + x4)).toNatClampNeg)).toNatClampNeg ((g_mi M (a0 + 4) ((g_mi M (a0 + 1) (((3 * x1) + x4)).toNatClampNeg)).toNatClampNeg) - 1)) (a0 + 5) ((g_mi M (a0 + 1) (((3 * x1) + x4)).toNatClampNeg)).toNatClampNeg ((g_mi (g_wi M (a0 + 4) ((g_mi M (a0 + 1) (((3 * x1) + x4)).toNatClampNeg)).toNatClampNeg ((g_mi M (a0 + 4) ((g_mi M (a0 + 1) (((3 * x1) + x4)).toNatClampNeg)).toNatClampNeg) - 1)) (a0 + 5) ((g_mi M (a0 + 1) (((3 * x1) + x4)).toNatClampNeg)).toNatClampNeg) ^^^ x1)) (a0 + 4) ((g_mi M (a0 + 1) (((3 * x1) + x4)).toNatClampNeg)).toNatClampNeg) = 1) → (¬ 63 ≤ x3) → vp_in (x3) 63) (h9 : (¬ 3 ≤ x4) → ((g_mi (g_wi (g_wi M (a0 + 4) ((g_mi M (a0 + 1) (((3 * x1) + x4)).toNatClampNeg)).toNatClampNeg ((g_mi M (a0 + 4) ((g_mi M (a0 + 1) (((3 * x1) + x4)).toNatClampNeg)).toNatClampNeg) - 1)) (a0 + 5) ((g_mi M (a0 + 1) (((3 * x1) + x4)).toNatClampNeg)).toNatClampNeg ((g_mi (g_wi M (a0 + 4) ((g_mi M (a0 + 1) (((3 * x1) + x4)).toNatClampNeg)).toNatClampNeg ((g_mi M (a0 + 4) ((g_mi M (a0 + 1) (((3 * x1) + x4)).toNatClampNeg)).toNatClampNeg) - 1)) (a0 + 5) ((g_mi M (a0 + 1) (((3 * x1) + x4)).toNatClampNeg)).toNatClampNeg) ^^^ x1)) (a0 + 4) ((g_mi M (a0 + 1) (((3 * x1) + x4)).toNatClampNeg)).toNatClampNeg) = 1) → (¬ 63 ≤ x3) → Go X d mc ms kX1_letGo Q 5 [(0, .ref a0), (1, .int (x1)), (3, .int ((x3 + 1))), (4, .int ((x4 + 1)))] [] (g_wi (g_wi (g_wi M (a0 + 4) ((g_mi M (a0 + 1) (((3 * x1) + x4)).toNatClampNeg)).toNatClampNeg ((g_mi M (a0 + 4) ((g_mi M (a0 + 1) (((3 * x1) + x4)).toNatClampNeg)).toNatClampNeg) - 1)) (a0 + 5) ((g_mi M (a0 + 1) (((3 * x1) + x4)).toNatClampNeg)).toNatClampNeg ((g_mi (g_wi M (a0 + 4) ((g_mi M (a0 + 1) (((3 * x1) + x4)).toNatClampNeg)).toNatClampNeg ((g_mi M (a0 + 4) ((g_mi M (a0 + 1) (((3 * x1) + x4)).toNatClampNeg)).toNatClampNeg) - 1)) (a0 + 5) ((g_mi M (a0 + 1) (((3 * x1) + x4)).toNatClampNeg)).toNatClampNeg) ^^^ x1)) (a0 + 7) (x3).toNatClampNeg (g_mi M (a0 + 1) (((3 * x1) + x4)).toNatClampNeg)) c z) : Go X d mc ms kX1_letGo Q 5 [(0, .ref a0), (1, .int (x1)), (3, .int (x3)), (4, .int (x4))] [] M c z := by
  refine g_iload 3 7 dX1_letGo_5 rfl rfl ?_
  refine g_iconst (3) 8 dX1_letGo_7 rfl rfl ?_
  refine g_icmp_ge 83 11 dX1_letGo_8 rfl rfl (fun c1 => ?_) (fun c1 => ?_)
  · skip
    refine g_iload_n 2 84 dX1_letGo_83 rfl rfl ?_
    exact g_iret dX1_letGo_84 rfl (w2) (w3) (h1 c1)
  · skip
    refine g_aload_n 0 12 dX1_letGo_11 rfl rfl ?_
    refine g_getR 15 (a0 + 1) dX1_letGo_12 rfl flX1_9 s0.1 s0.2.1 ?_
    refine g_iconst (3) 16 dX1_letGo_15 rfl rfl ?_
    refine g_iload_n 1 17 dX1_letGo_16 rfl rfl ?_
    refine g_imul 18 dX1_letGo_17 rfl ?_
    refine g_iload 3 20 dX1_letGo_18 rfl rfl ?_
    refine g_iadd 21 dX1_letGo_20 rfl ?_
    refine h_iaload 22 (((3 * x1) + x4)).toNatClampNeg dX1_letGo_21 rfl rfl s0.2.2.1 (b4 c1) ?_
    refine g_istore 24 [(5, .int ((g_mi M (a0 + 1) (((3 * x1) + x4)).toNatClampNeg))), (0, .ref a0), (1, .int (x1)), (3, .int (x3)), (4, .int (x4))] dX1_letGo_22 rfl (Nat.le_of_ble_eq_true rfl) rfl ?_
    refine g_aload_n 1 25 dX1_letGo_24 rfl rfl ?_
    refine g_getR 28 (a0 + 4) dX1_letGo_25 rfl flX1_21 s0.1 s0.2.2.2.2.2.2.2.1 ?_
    refine g_iload 0 30 dX1_letGo_28 rfl rfl ?_
    refine g_dup2 31 dX1_letGo_30 rfl rfl rfl ?_
    refine h_iaload 32 ((g_mi M (a0 + 1) (((3 * x1) + x4)).toNatClampNeg)).toNatClampNeg dX1_letGo_31 rfl rfl s0.2.2.2.2.2.2.2.2.1 (b5 c1) ?_
    refine g_iconst (1) 33 dX1_letGo_32 rfl rfl ?_
    refine g_isub 34 dX1_letGo_33 rfl ?_
    refine h_iastore 35 ((g_mi M (a0 + 1) (((3 * x1) + x4)).toNatClampNeg)).toNatClampNeg dX1_letGo_34 rfl rfl s0.2.2.2.2.2.2.2.2.1 (b5 c1) ?_
    refine g_aload_n 1 36 dX1_letGo_35 rfl rfl ?_
    refine g_getR 39 (a0 + 5) dX1_letGo_36 rfl flX1_24 (Sm.k (Sm.wi Sm.rf) s0.1) (Sm.r (Sm.wi Sm.rf) s0.2.2.2.2.2.2.2.2.2.1) ?_
    refine g_iload 0 41 dX1_letGo_39 rfl rfl ?_
    refine g_dup2 42 dX1_letGo_41 rfl rfl rfl ?_
    refine h_iaload 43 ((g_mi M (a0 + 1) (((3 * x1) + x4)).toNatClampNeg)).toNatClampNeg dX1_letGo_42 rfl rfl (Sm.k (Sm.wi Sm.rf) s0.2.2.2.2.2.2.2.2.2.2.1) (b5 c1) ?_
    refine g_iload_n 2 44 dX1_letGo_43 rfl rfl ?_
    refine g_ixor 45 dX1_letGo_44 rfl ?_
    refine h_iastore 46 ((g_mi M (a0 + 1) (((3 * x1) + x4)).toNatClampNeg)).toNatClampNeg dX1_letGo_45 rfl rfl (Sm.k (Sm.wi Sm.rf) s0.2.2.2.2.2.2.2.2.2.2.1) (b5 c1) ?_
    refine g_aload_n 1 47 dX1_letGo_46 rfl rfl ?_
    refine g_getR 50 (a0 + 4) dX1_letGo_47 rfl flX1_21 (Sm.k (Sm.wi (Sm.wi Sm.rf)) s0.1) (Sm.r (Sm.wi (Sm.wi Sm.rf)) s0.2.2.2.2.2.2.2.1) ?_
    refine g_iload 0 52 dX1_letGo_50 rfl rfl ?_
    refine h_iaload 53 ((g_mi M (a0 + 1) (((3 * x1) + x4)).toNatClampNeg)).toNatClampNeg dX1_letGo_52 rfl rfl (Sm.k (Sm.wi (Sm.wi Sm.rf)) s0.2.2.2.2.2.2.2.2.1) (b5 c1) ?_
    refine g_iconst (1) 54 dX1_letGo_53 rfl rfl ?_
    refine g_icmp_ne 77 57 dX1_letGo_54 rfl rfl (fun c2 => ?_) (fun c2 => ?_)
    · skip
      refine g_iinc _ 4 80 [(4, .int ((x4 + 1))), (5, .int ((g_mi M (a0 + 1) (((3 * x1) + x4)).toNatClampNeg))), (0, .ref a0), (1, .int (x1)), (3, .int (x3))] dX1_letGo_77 rfl rfl rfl (Nat.le_of_ble_eq_true rfl) rfl ?_
      refine g_goto 5 dX1_letGo_80 rfl ?_
      exact g_sub [2, 3, 4, 0] _ rfl (h6 c1 c2)
    · skip
      refine g_iload_n 3 58 dX1_letGo_57 rfl rfl ?_
      refine g_aload_n 1 59 dX1_letGo_58 rfl rfl ?_
      refine g_getR 62 (a0 + 7) dX1_letGo_59 rfl flX1_30 (Sm.k (Sm.wi (Sm.wi Sm.rf)) s0.1) (Sm.r (Sm.wi (Sm.wi Sm.rf)) s0.2.2.2.2.2.2.2.2.2.2.2.2.2.1) ?_
      refine g_alen (t := 0) 63 dX1_letGo_62 rfl (Sm.k (Sm.wi (Sm.wi Sm.rf)) s0.2.2.2.2.2.2.2.2.2.2.2.2.2.2.1) (by decide) rfl ?_
      refine g_icmp_ge 77 66 dX1_letGo_63 rfl rfl (fun c3 => ?_) (fun c3 => ?_)
      · skip
        refine g_iinc _ 4 80 [(4, .int ((x4 + 1))), (5, .int ((g_mi M (a0 + 1) (((3 * x1) + x4)).toNatClampNeg))), (0, .ref a0), (1, .int (x1)), (3, .int (x3))] dX1_letGo_77 rfl rfl rfl (Nat.le_of_ble_eq_true rfl) rfl ?_
        refine g_goto 5 dX1_letGo_80 rfl ?_
        exact g_sub [2, 3, 4, 0] _ rfl (h7 c1 c2 c3)
      · skip
        refine g_aload_n 1 67 dX1_letGo_66 rfl rfl ?_
        refine g_getR 70 (a0 + 7) dX1_letGo_67 rfl flX1_30 (Sm.k (Sm.wi (Sm.wi Sm.rf)) s0.1) (Sm.r (Sm.wi (Sm.wi Sm.rf)) s0.2.2.2.2.2.2.2.2.2.2.2.2.2.1) ?_
        refine g_iload_n 3 71 dX1_letGo_70 rfl rfl ?_
        refine g_iload 0 73 dX1_letGo_71 rfl rfl ?_
        refine h_iastore 74 (x3).toNatClampNeg dX1_letGo_73 rfl rfl (Sm.k (Sm.wi (Sm.wi Sm.rf)) s0.2.2.2.2.2.2.2.2.2.2.2.2.2.2.1) (b8 c1 c2 c3) ?_
        refine g_iinc _ 3 77 [(3, .int ((x3 + 1))), (5, .int ((g_mi M (a0 + 1) (((3 * x1) + x4)).toNatClampNeg))), (0, .ref a0), (1, .int (x1)), (4, .int (x4))] dX1_letGo_74 rfl rfl rfl (Nat.le_of_ble_eq_true rfl) rfl ?_
        refine g_iinc _ 4 80 [(4, .int ((x4 + 1))), (3, .int ((x3 + 1))), (5, .int ((g_mi M (a0 + 1) (((3 * x1) + x4)).toNatClampNeg))), (0, .ref a0), (1, .int (x1))] dX1_letGo_77 rfl rfl rfl (Nat.le_of_ble_eq_true rfl) rfl ?_
        refine g_goto 5 dX1_letGo_80 rfl ?_
        exact g_sub [3, 4, 1, 0] _ rfl (h9 c1 c2 c3)

def bX1_letGo_0 (N : Nat) (M : gM) (a0 : Nat) (x1 : Int32) (x2 : Int32) (k : Nat → (Nat → Nat → Int32) → Nat → Int32 → Int32 → Int32 → Int32 × (Nat → Nat → Int32)) : Int32 × (Nat → Nat → Int32) := (k 0 (g_mi M) a0 x1 x2 0)
def eX1_letGo_0 (N : Nat) (M : gM) (a0 : Nat) (x1 : Int32) (x2 : Int32) (k : Nat → (Nat → Nat → Int32) → Nat → Int32 → Int32 → Int32 → Prop) : Prop := (k 0 (g_mi M) a0 x1 x2 0)
def bX1_letGo_5 (N : Nat) (M : gM) (f : Nat → Nat → Int32) (a0 : Nat) (x1 : Int32) (x3 : Int32) (x4 : Int32) (k : Nat → (Nat → Nat → Int32) → Nat → Int32 → Int32 → Int32 → Int32 × (Nat → Nat → Int32)) : Int32 × (Nat → Nat → Int32) := (if 3 ≤ x4 then (x3, g_mi (g_wm M f (g_ml M))) else (if (g_mi (g_wi (g_wi (g_wm M f (g_ml M)) (a0 + 4) ((g_mi (g_wm M f (g_ml M)) (a0 + 1) (((3 * x1) + x4)).toNatClampNeg)).toNatClampNeg ((g_mi (g_wm M f (g_ml M)) (a0 + 4) ((g_mi (g_wm M f (g_ml M)) (a0 + 1) (((3 * x1) + x4)).toNatClampNeg)).toNatClampNeg) - 1)) (a0 + 5) ((g_mi (g_wm M f (g_ml M)) (a0 + 1) (((3 * x1) + x4)).toNatClampNeg)).toNatClampNeg ((g_mi (g_wi (g_wm M f (g_ml M)) (a0 + 4) ((g_mi (g_wm M f (g_ml M)) (a0 + 1) (((3 * x1) + x4)).toNatClampNeg)).toNatClampNeg ((g_mi (g_wm M f (g_ml M)) (a0 + 4) ((g_mi (g_wm M f (g_ml M)) (a0 + 1) (((3 * x1) + x4)).toNatClampNeg)).toNatClampNeg) - 1)) (a0 + 5) ((g_mi (g_wm M f (g_ml M)) (a0 + 1) (((3 * x1) + x4)).toNatClampNeg)).toNatClampNeg) ^^^ x1)) (a0 + 4) ((g_mi (g_wm M f (g_ml M)) (a0 + 1) (((3 * x1) + x4)).toNatClampNeg)).toNatClampNeg) = 1 then (if 63 ≤ x3 then (k 0 (g_mi (g_wi (g_wi (g_wm M f (g_ml M)) (a0 + 4) ((g_mi (g_wm M f (g_ml M)) (a0 + 1) (((3 * x1) + x4)).toNatClampNeg)).toNatClampNeg ((g_mi (g_wm M f (g_ml M)) (a0 + 4) ((g_mi (g_wm M f (g_ml M)) (a0 + 1) (((3 * x1) + x4)).toNatClampNeg)).toNatClampNeg) - 1)) (a0 + 5) ((g_mi (g_wm M f (g_ml M)) (a0 + 1) (((3 * x1) + x4)).toNatClampNeg)).toNatClampNeg ((g_mi (g_wi (g_wm M f (g_ml M)) (a0 + 4) ((g_mi (g_wm M f (g_ml M)) (a0 + 1) (((3 * x1) + x4)).toNatClampNeg)).toNatClampNeg ((g_mi (g_wm M f (g_ml M)) (a0 + 4) ((g_mi (g_wm M f (g_ml M)) (a0 + 1) (((3 * x1) + x4)).toNatClampNeg)).toNatClampNeg) - 1)) (a0 + 5) ((g_mi (g_wm M f (g_ml M)) (a0 + 1) (((3 * x1) + x4)).toNatClampNeg)).toNatClampNeg) ^^^ x1))) a0 x1 x3 (x4 + 1)) else (k 0 (g_mi (g_wi (g_wi (g_wi (g_wm M f (g_ml M)) (a0 + 4) ((g_mi (g_wm M f (g_ml M)) (a0 + 1) (((3 * x1) + x4)).toNatClampNeg)).toNatClampNeg ((g_mi (g_wm M f (g_ml M)) (a0 + 4) ((g_mi (g_wm M f (g_ml M)) (a0 + 1) (((3 * x1) + x4)).toNatClampNeg)).toNatClampNeg) - 1)) (a0 + 5) ((g_mi (g_wm M f (g_ml M)) (a0 + 1) (((3 * x1) + x4)).toNatClampNeg)).toNatClampNeg ((g_mi (g_wi (g_wm M f (g_ml M)) (a0 + 4) ((g_mi (g_wm M f (g_ml M)) (a0 + 1) (((3 * x1) + x4)).toNatClampNeg)).toNatClampNeg ((g_mi (g_wm M f (g_ml M)) (a0 + 4) ((g_mi (g_wm M f (g_ml M)) (a0 + 1) (((3 * x1) + x4)).toNatClampNeg)).toNatClampNeg) - 1)) (a0 + 5) ((g_mi (g_wm M f (g_ml M)) (a0 + 1) (((3 * x1) + x4)).toNatClampNeg)).toNatClampNeg) ^^^ x1)) (a0 + 7) (x3).toNatClampNeg (g_mi (g_wm M f (g_ml M)) (a0 + 1) (((3 * x1) + x4)).toNatClampNeg))) a0 x1 (x3 + 1) (x4 + 1))) else (k 0 (g_mi (g_wi (g_wi (g_wm M f (g_ml M)) (a0 + 4) ((g_mi (g_wm M f (g_ml M)) (a0 + 1) (((3 * x1) + x4)).toNatClampNeg)).toNatClampNeg ((g_mi (g_wm M f (g_ml M)) (a0 + 4) ((g_mi (g_wm M f (g_ml M)) (a0 + 1) (((3 * x1) + x4)).toNatClampNeg)).toNatClampNeg) - 1)) (a0 + 5) ((g_mi (g_wm M f (g_ml M)) (a0 + 1) (((3 * x1) + x4)).toNatClampNeg)).toNatClampNeg ((g_mi (g_wi (g_wm M f (g_ml M)) (a0 + 4) ((g_mi (g_wm M f (g_ml M)) (a0 + 1) (((3 * x1) + x4)).toNatClampNeg)).toNatClampNeg ((g_mi (g_wm M f (g_ml M)) (a0 + 4) ((g_mi (g_wm M f (g_ml M)) (a0 + 1) (((3 * x1) + x4)).toNatClampNeg)).toNatClampNeg) - 1)) (a0 + 5) ((g_mi (g_wm M f (g_ml M)) (a0 + 1) (((3 * x1) + x4)).toNatClampNeg)).toNatClampNeg) ^^^ x1))) a0 x1 x3 (x4 + 1))))
def eX1_letGo_5 (N : Nat) (M : gM) (f : Nat → Nat → Int32) (a0 : Nat) (x1 : Int32) (x3 : Int32) (x4 : Int32) (k : Nat → (Nat → Nat → Int32) → Nat → Int32 → Int32 → Int32 → Prop) : Prop := ((¬ 3 ≤ x4) → vp_in (((3 * x1) + x4)) 90) ∧ ((¬ 3 ≤ x4) → vp_in ((g_mi (g_wm M f (g_ml M)) (a0 + 1) (((3 * x1) + x4)).toNatClampNeg)) 60) ∧ ((¬ 3 ≤ x4) → ((g_mi (g_wi (g_wi (g_wm M f (g_ml M)) (a0 + 4) ((g_mi (g_wm M f (g_ml M)) (a0 + 1) (((3 * x1) + x4)).toNatClampNeg)).toNatClampNeg ((g_mi (g_wm M f (g_ml M)) (a0 + 4) ((g_mi (g_wm M f (g_ml M)) (a0 + 1) (((3 * x1) + x4)).toNatClampNeg)).toNatClampNeg) - 1)) (a0 + 5) ((g_mi (g_wm M f (g_ml M)) (a0 + 1) (((3 * x1) + x4)).toNatClampNeg)).toNatClampNeg ((g_mi (g_wi (g_wm M f (g_ml M)) (a0 + 4) ((g_mi (g_wm M f (g_ml M)) (a0 + 1) (((3 * x1) + x4)).toNatClampNeg)).toNatClampNeg ((g_mi (g_wm M f (g_ml M)) (a0 + 4) ((g_mi (g_wm M f (g_ml M)) (a0 + 1) (((3 * x1) + x4)).toNatClampNeg)).toNatClampNeg) - 1)) (a0 + 5) ((g_mi (g_wm M f (g_ml M)) (a0 + 1) (((3 * x1) + x4)).toNatClampNeg)).toNatClampNeg) ^^^ x1)) (a0 + 4) ((g_mi (g_wm M f (g_ml M)) (a0 + 1) (((3 * x1) + x4)).toNatClampNeg)).toNatClampNeg) = 1) → (¬ 63 ≤ x3) → vp_in (x3) 63) ∧ (if 3 ≤ x4 then True else (if (g_mi (g_wi (g_wi (g_wm M f (g_ml M)) (a0 + 4) ((g_mi (g_wm M f (g_ml M)) (a0 + 1) (((3 * x1) + x4)).toNatClampNeg)).toNatClampNeg ((g_mi (g_wm M f (g_ml M)) (a0 + 4) ((g_mi (g_wm M f (g_ml M)) (a0 + 1) (((3 * x1) + x4)).toNatClampNeg)).toNatClampNeg) - 1)) (a0 + 5) ((g_mi (g_wm M f (g_ml M)) (a0 + 1) (((3 * x1) + x4)).toNatClampNeg)).toNatClampNeg ((g_mi (g_wi (g_wm M f (g_ml M)) (a0 + 4) ((g_mi (g_wm M f (g_ml M)) (a0 + 1) (((3 * x1) + x4)).toNatClampNeg)).toNatClampNeg ((g_mi (g_wm M f (g_ml M)) (a0 + 4) ((g_mi (g_wm M f (g_ml M)) (a0 + 1) (((3 * x1) + x4)).toNatClampNeg)).toNatClampNeg) - 1)) (a0 + 5) ((g_mi (g_wm M f (g_ml M)) (a0 + 1) (((3 * x1) + x4)).toNatClampNeg)).toNatClampNeg) ^^^ x1)) (a0 + 4) ((g_mi (g_wm M f (g_ml M)) (a0 + 1) (((3 * x1) + x4)).toNatClampNeg)).toNatClampNeg) = 1 then (if 63 ≤ x3 then (k 0 (g_mi (g_wi (g_wi (g_wm M f (g_ml M)) (a0 + 4) ((g_mi (g_wm M f (g_ml M)) (a0 + 1) (((3 * x1) + x4)).toNatClampNeg)).toNatClampNeg ((g_mi (g_wm M f (g_ml M)) (a0 + 4) ((g_mi (g_wm M f (g_ml M)) (a0 + 1) (((3 * x1) + x4)).toNatClampNeg)).toNatClampNeg) - 1)) (a0 + 5) ((g_mi (g_wm M f (g_ml M)) (a0 + 1) (((3 * x1) + x4)).toNatClampNeg)).toNatClampNeg ((g_mi (g_wi (g_wm M f (g_ml M)) (a0 + 4) ((g_mi (g_wm M f (g_ml M)) (a0 + 1) (((3 * x1) + x4)).toNatClampNeg)).toNatClampNeg ((g_mi (g_wm M f (g_ml M)) (a0 + 4) ((g_mi (g_wm M f (g_ml M)) (a0 + 1) (((3 * x1) + x4)).toNatClampNeg)).toNatClampNeg) - 1)) (a0 + 5) ((g_mi (g_wm M f (g_ml M)) (a0 + 1) (((3 * x1) + x4)).toNatClampNeg)).toNatClampNeg) ^^^ x1))) a0 x1 x3 (x4 + 1)) else (k 0 (g_mi (g_wi (g_wi (g_wi (g_wm M f (g_ml M)) (a0 + 4) ((g_mi (g_wm M f (g_ml M)) (a0 + 1) (((3 * x1) + x4)).toNatClampNeg)).toNatClampNeg ((g_mi (g_wm M f (g_ml M)) (a0 + 4) ((g_mi (g_wm M f (g_ml M)) (a0 + 1) (((3 * x1) + x4)).toNatClampNeg)).toNatClampNeg) - 1)) (a0 + 5) ((g_mi (g_wm M f (g_ml M)) (a0 + 1) (((3 * x1) + x4)).toNatClampNeg)).toNatClampNeg ((g_mi (g_wi (g_wm M f (g_ml M)) (a0 + 4) ((g_mi (g_wm M f (g_ml M)) (a0 + 1) (((3 * x1) + x4)).toNatClampNeg)).toNatClampNeg ((g_mi (g_wm M f (g_ml M)) (a0 + 4) ((g_mi (g_wm M f (g_ml M)) (a0 + 1) (((3 * x1) + x4)).toNatClampNeg)).toNatClampNeg) - 1)) (a0 + 5) ((g_mi (g_wm M f (g_ml M)) (a0 + 1) (((3 * x1) + x4)).toNatClampNeg)).toNatClampNeg) ^^^ x1)) (a0 + 7) (x3).toNatClampNeg (g_mi (g_wm M f (g_ml M)) (a0 + 1) (((3 * x1) + x4)).toNatClampNeg))) a0 x1 (x3 + 1) (x4 + 1))) else (k 0 (g_mi (g_wi (g_wi (g_wm M f (g_ml M)) (a0 + 4) ((g_mi (g_wm M f (g_ml M)) (a0 + 1) (((3 * x1) + x4)).toNatClampNeg)).toNatClampNeg ((g_mi (g_wm M f (g_ml M)) (a0 + 4) ((g_mi (g_wm M f (g_ml M)) (a0 + 1) (((3 * x1) + x4)).toNatClampNeg)).toNatClampNeg) - 1)) (a0 + 5) ((g_mi (g_wm M f (g_ml M)) (a0 + 1) (((3 * x1) + x4)).toNatClampNeg)).toNatClampNeg ((g_mi (g_wi (g_wm M f (g_ml M)) (a0 + 4) ((g_mi (g_wm M f (g_ml M)) (a0 + 1) (((3 * x1) + x4)).toNatClampNeg)).toNatClampNeg ((g_mi (g_wm M f (g_ml M)) (a0 + 4) ((g_mi (g_wm M f (g_ml M)) (a0 + 1) (((3 * x1) + x4)).toNatClampNeg)).toNatClampNeg) - 1)) (a0 + 5) ((g_mi (g_wm M f (g_ml M)) (a0 + 1) (((3 * x1) + x4)).toNatClampNeg)).toNatClampNeg) ^^^ x1))) a0 x1 x3 (x4 + 1))))
def wX1_letGo (N : Nat) (M : gM) : Nat → Nat → (Nat → Nat → Int32) → Nat → Int32 → Int32 → Int32 → Int32 × (Nat → Nat → Int32)
  | 0, _, f, _, _, _, _ => (0, f)
  | n + 1, h, f, a0, x1, x3, x4 => bX1_letGo_5 N M f a0 x1 x3 x4 (wX1_letGo N M n)
def vX1_letGo (N : Nat) (M : gM) : Nat → Nat → (Nat → Nat → Int32) → Nat → Int32 → Int32 → Int32 → Prop
  | 0, _, _, _, _, _, _ => False
  | n + 1, h, f, a0, x1, x3, x4 => eX1_letGo_5 N M f a0 x1 x3 x4 (vX1_letGo N M n)
set_option maxRecDepth 10000 in
theorem lpX1_letGo {X : gX} {d mc ms : Nat} {Q : Option Value → gM → Prop} (N : Nat) (M : gM) : ∀ n : Nat, (∀ (f : Nat → Nat → Int32) (a0 : Nat) (x1 : Int32) (x3 : Int32) (x4 : Int32), Pe M a0 → vX1_letGo N M n 0 f a0 x1 x3 x4 → Q (some (.int (wX1_letGo N M n 0 f a0 x1 x3 x4).1)) (g_wm M (wX1_letGo N M n 0 f a0 x1 x3 x4).2 (g_ml M)) → Go X d mc ms kX1_letGo Q 5 [(0, .ref a0), (1, .int (x1)), (3, .int (x3)), (4, .int (x4))] [] (g_wm M f (g_ml M)) 0 0) := by
  intro n
  induction n with
  | zero => exact fun _ _ _ _ _ _ h _ => h.elim
  | succ n ih =>
    intro f a0 x1 x3 x4 s0 hT hQ
    rw [vX1_letGo] at hT
    rw [wX1_letGo] at hQ
    unfold bX1_letGo_5 at hQ
    unfold eX1_letGo_5 at hT
    obtain ⟨b4, b5, b8, hT⟩ := hT
    exact sX1_letGo_5 (M := (g_wm M f (g_ml M))) (Pe.sm Sm.wm s0) (fun c1 => by simp only [if_pos c1] at hQ; exact Sm.q Sm.wm hQ) (Nat.zero_le _) (Nat.zero_le _) b4 b5 (fun c1 c2 => by simp only [if_neg c1, if_neg c2] at hQ hT; exact Sm.g (Sm.tr Sm.wm (Sm.wi (Sm.wi Sm.rf))) (ih _ _ _ _ _ (s0) hT hQ)) (fun c1 c2 c3 => by simp only [if_neg c1, if_pos c2, if_pos c3] at hQ hT; exact Sm.g (Sm.tr Sm.wm (Sm.wi (Sm.wi Sm.rf))) (ih _ _ _ _ _ (s0) hT hQ)) b8 (fun c1 c2 c3 => by simp only [if_neg c1, if_pos c2, if_neg c3] at hQ hT; exact Sm.g (Sm.tr Sm.wm (Sm.wi (Sm.wi (Sm.wi Sm.rf)))) (ih _ _ _ _ _ (s0) hT hQ))
def fX1_letGo (N : Nat) (M : gM) (a0 : Nat) (x1 : Int32) (x2 : Int32) : Int32 := (bX1_letGo_0 N M a0 x1 x2 (wX1_letGo N M N)).1
def mX1_letGo (N : Nat) (M : gM) (a0 : Nat) (x1 : Int32) (x2 : Int32) : gM := g_wm M (bX1_letGo_0 N M a0 x1 x2 (wX1_letGo N M N)).2 (g_ml M)
theorem jX1_letGo {N : Nat} {M : gM} {a0 : Nat} {x1 : Int32} {x2 : Int32} : Sm M (mX1_letGo N M a0 x1 x2) := Sm.wm
def EX1_letGo (N : Nat) (M : gM) (a0 : Nat) (x1 : Int32) (x2 : Int32) : Prop := eX1_letGo_0 N M a0 x1 x2 (vX1_letGo N M N)
theorem tX1_letGo {N : Nat} {X : gX} {d mc ms : Nat} {Q : Option Value → gM → Prop} {M : gM} {a0 : Nat} {x1 : Int32} {x2 : Int32} (s0 : Pe M a0) (hE : EX1_letGo N M a0 x1 x2) (hQ : Q (some (.int (fX1_letGo N M a0 x1 x2))) (mX1_letGo N M a0 x1 x2)) : Cn X d mc ms kX1_letGo [.ref a0, .int (x1), .int (x2)] M Q := by
  unfold fX1_letGo mX1_letGo at hQ
  unfold bX1_letGo_0 at hQ
  unfold EX1_letGo eX1_letGo_0 at hE
  have hT := hE
  have ih := lpX1_letGo (X := X) (d := d) (mc := mc) (ms := ms) (Q := Q) N M N
  exact sX1_letGo_0 s0 (Sm.g Sm.rf (ih _ _ _ _ _ (s0) hT hQ))
/-! X1_lay  -/
set_option maxRecDepth 4000 in
theorem sX1_lay_0 {N : Nat} {X : gX} {d mc ms : Nat} {Q : Option Value → gM → Prop} {M : gM} {a0 : Nat} {a1 : Nat} {x2 : Int32} {x3 : Int32} (s0 : Pe M a0) (s1 : St M a1) (b1 : EJ7_fill_53178 N M (a0 + 4) 60 0) (b2 : EJ7_fill_53178 N (mJ7_fill_53178 N M (a0 + 4) 60 0) (a0 + 5) 60 0) (h3 : Go X (d + 1) mc ms kX1_lay Q 19 [(0, .ref a0), (1, .ref a1), (2, .int (x2)), (3, .int (x3)), (4, .int (0))] [] (mJ7_fill_53178 N (mJ7_fill_53178 N M (a0 + 4) 60 0) (a0 + 5) 60 0) 0 0) : Cn X (d + 1) mc ms kX1_lay [.ref a0, .ref a1, .int (x2), .int (x3)] M Q := by
  refine g_meth rfl rfl (Nat.le_of_ble_eq_true rfl) rfl ?_
  refine g_aload_n 0 1 dX1_lay_0 rfl rfl ?_
  refine g_getR 4 (a0 + 4) dX1_lay_1 rfl flX1_21 s0.1 s0.2.2.2.2.2.2.2.1 ?_
  refine g_iconst (0) 5 dX1_lay_4 rfl rfl ?_
  refine g_callS (mc1 := 0) (ms1 := 0) (rest := []) (av := [.ref (a0 + 4), .int (0)]) kJ7_fill_53178 8 dX1_lay_5 rfl rfl mbX1_71 smJ7_fill_53178 (Nat.le_of_ble_eq_true rfl) (Nat.zero_le _) (Nat.zero_le _) (tJ7_fill_53178 (N := N) s0.2.2.2.2.2.2.2.2.1 (b1) ?_)
  show Go X (d + 1) mc ms kX1_lay Q 8 [(0, .ref a0), (1, .ref a1), (2, .int (x2)), (3, .int (x3))] [] (mJ7_fill_53178 N M (a0 + 4) 60 0) 0 0
  refine g_aload_n 0 9 dX1_lay_8 rfl rfl ?_
  refine g_getR 12 (a0 + 5) dX1_lay_9 rfl flX1_24 (Sm.k (Sm.tr Sm.rf jJ7_fill_53178) s0.1) (Sm.r (Sm.tr Sm.rf jJ7_fill_53178) s0.2.2.2.2.2.2.2.2.2.1) ?_
  refine g_iconst (0) 13 dX1_lay_12 rfl rfl ?_
  refine g_callS (mc1 := 0) (ms1 := 0) (rest := []) (av := [.ref (a0 + 5), .int (0)]) kJ7_fill_53178 16 dX1_lay_13 rfl rfl mbX1_71 smJ7_fill_53178 (Nat.le_of_ble_eq_true rfl) (Nat.zero_le _) (Nat.zero_le _) (tJ7_fill_53178 (N := N) (Sm.k (Sm.tr Sm.rf jJ7_fill_53178) s0.2.2.2.2.2.2.2.2.2.2.1) (b2) ?_)
  show Go X (d + 1) mc ms kX1_lay Q 16 [(0, .ref a0), (1, .ref a1), (2, .int (x2)), (3, .int (x3))] [] (mJ7_fill_53178 N (mJ7_fill_53178 N M (a0 + 4) 60 0) (a0 + 5) 60 0) 0 0
  refine g_iconst (0) 17 dX1_lay_16 rfl rfl ?_
  refine g_istore 19 [(4, .int (0)), (0, .ref a0), (1, .ref a1), (2, .int (x2)), (3, .int (x3))] dX1_lay_17 rfl (Nat.le_of_ble_eq_true rfl) rfl ?_
  exact g_sub [1, 2, 3, 4, 0] _ rfl (h3)

set_option maxRecDepth 4000 in
theorem sX1_lay_19 {X : gX} {d mc ms : Nat} {Q : Option Value → gM → Prop} {M : gM} {c z : Nat} {a0 : Nat} {a1 : Nat} {x2 : Int32} {x3 : Int32} {x4 : Int32} (s0 : Pe M a0) (s1 : St M a1) (h1 : ((g_mi M a1 3) ≤ x4) → Q none M) (w2 : c ≤ mc) (w3 : z ≤ ms) (h4 : (¬ (g_mi M a1 3) ≤ x4) → Go X (d + 1) mc ms kX1_lay Q 31 [(0, .ref a0), (1, .ref a1), (2, .int (x2)), (3, .int (x3)), (4, .int (x4)), (5, .int (0))] [] M c z) : Go X (d + 1) mc ms kX1_lay Q 19 [(0, .ref a0), (1, .ref a1), (2, .int (x2)), (3, .int (x3)), (4, .int (x4))] [] M c z := by
  refine g_iload 4 21 dX1_lay_19 rfl rfl ?_
  refine g_aload_n 1 22 dX1_lay_21 rfl rfl ?_
  refine g_getI 25 dX1_lay_22 rfl flX1_37 s1.1 ?_
  refine g_icmp_ge 102 28 dX1_lay_25 rfl rfl (fun c1 => ?_) (fun c1 => ?_)
  · skip
    exact g_vret dX1_lay_102 rfl (w2) (w3) (h1 c1)
  · skip
    refine g_iconst (0) 29 dX1_lay_28 rfl rfl ?_
    refine g_istore 31 [(5, .int (0)), (0, .ref a0), (1, .ref a1), (2, .int (x2)), (3, .int (x3)), (4, .int (x4))] dX1_lay_29 rfl (Nat.le_of_ble_eq_true rfl) rfl ?_
    exact g_sub [1, 2, 3, 4, 5, 0] _ rfl (h4 c1)

set_option maxRecDepth 4000 in
theorem sX1_lay_31 {X : gX} {d mc ms : Nat} {Q : Option Value → gM → Prop} {M : gM} {c z : Nat} {a0 : Nat} {a1 : Nat} {x2 : Int32} {x3 : Int32} {x4 : Int32} {x5 : Int32} (s0 : Pe M a0) (s1 : St M a1) (h1 : (3 ≤ x5) → Go X (d + 1) mc ms kX1_lay Q 19 [(0, .ref a0), (1, .ref a1), (2, .int (x2)), (3, .int (x3)), (4, .int ((x4 + 1)))] [] M c z) (b2 : (¬ 3 ≤ x5) → vp_in (x4) 30) (w3 : c ≤ mc) (w4 : z ≤ ms) (b5 : (¬ 3 ≤ x5) → EX8_vertexOf M (g_mi M (a1 + 1) (x4).toNatClampNeg) x5 x2 x3) (b6 : (¬ 3 ≤ x5) → vp_in (((3 * x4) + x5)) 90) (b7 : (¬ 3 ≤ x5) → vp_in ((fX8_vertexOf (g_mi M (a1 + 1) (x4).toNatClampNeg) x5 x2 x3)) 60) (h8 : (¬ 3 ≤ x5) → Go X (d + 1) mc ms kX1_lay Q 31 [(0, .ref a0), (1, .ref a1), (2, .int (x2)), (3, .int (x3)), (4, .int (x4)), (5, .int ((x5 + 1)))] [] (g_wi (g_wi (g_wi M (a0 + 1) (((3 * x4) + x5)).toNatClampNeg (fX8_vertexOf (g_mi M (a1 + 1) (x4).toNatClampNeg) x5 x2 x3)) (a0 + 4) ((fX8_vertexOf (g_mi M (a1 + 1) (x4).toNatClampNeg) x5 x2 x3)).toNatClampNeg ((g_mi (g_wi M (a0 + 1) (((3 * x4) + x5)).toNatClampNeg (fX8_vertexOf (g_mi M (a1 + 1) (x4).toNatClampNeg) x5 x2 x3)) (a0 + 4) ((fX8_vertexOf (g_mi M (a1 + 1) (x4).toNatClampNeg) x5 x2 x3)).toNatClampNeg) + 1)) (a0 + 5) ((fX8_vertexOf (g_mi M (a1 + 1) (x4).toNatClampNeg) x5 x2 x3)).toNatClampNeg ((g_mi (g_wi (g_wi M (a0 + 1) (((3 * x4) + x5)).toNatClampNeg (fX8_vertexOf (g_mi M (a1 + 1) (x4).toNatClampNeg) x5 x2 x3)) (a0 + 4) ((fX8_vertexOf (g_mi M (a1 + 1) (x4).toNatClampNeg) x5 x2 x3)).toNatClampNeg ((g_mi (g_wi M (a0 + 1) (((3 * x4) + x5)).toNatClampNeg (fX8_vertexOf (g_mi M (a1 + 1) (x4).toNatClampNeg) x5 x2 x3)) (a0 + 4) ((fX8_vertexOf (g_mi M (a1 + 1) (x4).toNatClampNeg) x5 x2 x3)).toNatClampNeg) + 1)) (a0 + 5) ((fX8_vertexOf (g_mi M (a1 + 1) (x4).toNatClampNeg) x5 x2 x3)).toNatClampNeg) ^^^ x4)) c z) : Go X (d + 1) mc ms kX1_lay Q 31 [(0, .ref a0), (1, .ref a1), (2, .int (x2)), (3, .int (x3)), (4, .int (x4)), (5, .int (x5))] [] M c z := by
  refine g_iload 5 33 dX1_lay_31 rfl rfl ?_
  refine g_iconst (3) 34 dX1_lay_33 rfl rfl ?_
  refine g_icmp_ge 96 37 dX1_lay_34 rfl rfl (fun c1 => ?_) (fun c1 => ?_)
  · skip
    refine g_iinc _ 4 99 [(4, .int ((x4 + 1))), (0, .ref a0), (1, .ref a1), (2, .int (x2)), (3, .int (x3)), (5, .int (x5))] dX1_lay_96 rfl rfl rfl (Nat.le_of_ble_eq_true rfl) rfl ?_
    refine g_goto 19 dX1_lay_99 rfl ?_
    exact g_sub [1, 2, 3, 4, 0] _ rfl (h1 c1)
  · skip
    refine g_aload_n 1 38 dX1_lay_37 rfl rfl ?_
    refine g_getR 41 (a1 + 1) dX1_lay_38 rfl flX1_77 s1.1 s1.2.1 ?_
    refine g_iload 4 43 dX1_lay_41 rfl rfl ?_
    refine h_iaload 44 (x4).toNatClampNeg dX1_lay_43 rfl rfl s1.2.2.1 (b2 c1) ?_
    refine g_iload 5 46 dX1_lay_44 rfl rfl ?_
    refine g_iload_n 2 47 dX1_lay_46 rfl rfl ?_
    refine g_iload_n 3 48 dX1_lay_47 rfl rfl ?_
    refine g_callSN (mc1 := 0) (ms1 := 0) (rest := []) (av := [.int ((g_mi M (a1 + 1) (x4).toNatClampNeg)), .int (x5), .int (x2), .int (x3)]) kX8_vertexOf 51 dX1_lay_48 rfl rfl mbX1_80 smX8_vertexOf (Nat.le_of_ble_eq_true rfl) (w3) (w4) (tX8_vertexOf (b5 c1) ?_)
    show Go X (d + 1) mc ms kX1_lay Q 51 [(0, .ref a0), (1, .ref a1), (2, .int (x2)), (3, .int (x3)), (4, .int (x4)), (5, .int (x5))] [.int ((fX8_vertexOf (g_mi M (a1 + 1) (x4).toNatClampNeg) x5 x2 x3))] M c z
    refine g_istore 53 [(6, .int ((fX8_vertexOf (g_mi M (a1 + 1) (x4).toNatClampNeg) x5 x2 x3))), (0, .ref a0), (1, .ref a1), (2, .int (x2)), (3, .int (x3)), (4, .int (x4)), (5, .int (x5))] dX1_lay_51 rfl (Nat.le_of_ble_eq_true rfl) rfl ?_
    refine g_aload_n 1 54 dX1_lay_53 rfl rfl ?_
    refine g_getR 57 (a0 + 1) dX1_lay_54 rfl flX1_9 s0.1 s0.2.1 ?_
    refine g_iconst (3) 58 dX1_lay_57 rfl rfl ?_
    refine g_iload 5 60 dX1_lay_58 rfl rfl ?_
    refine g_imul 61 dX1_lay_60 rfl ?_
    refine g_iload 6 63 dX1_lay_61 rfl rfl ?_
    refine g_iadd 64 dX1_lay_63 rfl ?_
    refine g_iload 0 66 dX1_lay_64 rfl rfl ?_
    refine h_iastore 67 (((3 * x4) + x5)).toNatClampNeg dX1_lay_66 rfl rfl s0.2.2.1 (b6 c1) ?_
    refine g_aload_n 1 68 dX1_lay_67 rfl rfl ?_
    refine g_getR 71 (a0 + 4) dX1_lay_68 rfl flX1_21 (Sm.k (Sm.wi Sm.rf) s0.1) (Sm.r (Sm.wi Sm.rf) s0.2.2.2.2.2.2.2.1) ?_
    refine g_iload 0 73 dX1_lay_71 rfl rfl ?_
    refine g_dup2 74 dX1_lay_73 rfl rfl rfl ?_
    refine h_iaload 75 ((fX8_vertexOf (g_mi M (a1 + 1) (x4).toNatClampNeg) x5 x2 x3)).toNatClampNeg dX1_lay_74 rfl rfl (Sm.k (Sm.wi Sm.rf) s0.2.2.2.2.2.2.2.2.1) (b7 c1) ?_
    refine g_iconst (1) 76 dX1_lay_75 rfl rfl ?_
    refine g_iadd 77 dX1_lay_76 rfl ?_
    refine h_iastore 78 ((fX8_vertexOf (g_mi M (a1 + 1) (x4).toNatClampNeg) x5 x2 x3)).toNatClampNeg dX1_lay_77 rfl rfl (Sm.k (Sm.wi Sm.rf) s0.2.2.2.2.2.2.2.2.1) (b7 c1) ?_
    refine g_aload_n 1 79 dX1_lay_78 rfl rfl ?_
    refine g_getR 82 (a0 + 5) dX1_lay_79 rfl flX1_24 (Sm.k (Sm.wi (Sm.wi Sm.rf)) s0.1) (Sm.r (Sm.wi (Sm.wi Sm.rf)) s0.2.2.2.2.2.2.2.2.2.1) ?_
    refine g_iload 0 84 dX1_lay_82 rfl rfl ?_
    refine g_dup2 85 dX1_lay_84 rfl rfl rfl ?_
    refine h_iaload 86 ((fX8_vertexOf (g_mi M (a1 + 1) (x4).toNatClampNeg) x5 x2 x3)).toNatClampNeg dX1_lay_85 rfl rfl (Sm.k (Sm.wi (Sm.wi Sm.rf)) s0.2.2.2.2.2.2.2.2.2.2.1) (b7 c1) ?_
    refine g_iload 5 88 dX1_lay_86 rfl rfl ?_
    refine g_ixor 89 dX1_lay_88 rfl ?_
    refine h_iastore 90 ((fX8_vertexOf (g_mi M (a1 + 1) (x4).toNatClampNeg) x5 x2 x3)).toNatClampNeg dX1_lay_89 rfl rfl (Sm.k (Sm.wi (Sm.wi Sm.rf)) s0.2.2.2.2.2.2.2.2.2.2.1) (b7 c1) ?_
    refine g_iinc _ 6 93 [(5, .int ((x5 + 1))), (6, .int ((fX8_vertexOf (g_mi M (a1 + 1) (x4).toNatClampNeg) x5 x2 x3))), (0, .ref a0), (1, .ref a1), (2, .int (x2)), (3, .int (x3)), (4, .int (x4))] dX1_lay_90 rfl rfl rfl (Nat.le_of_ble_eq_true rfl) rfl ?_
    refine g_goto 31 dX1_lay_93 rfl ?_
    exact g_sub [2, 3, 4, 5, 6, 0] _ rfl (h8 c1)

def bX1_lay_0 (N : Nat) (M : gM) (a0 : Nat) (a1 : Nat) (x2 : Int32) (x3 : Int32) (k : Nat → (Nat → Nat → Int32) → Nat → Nat → Int32 → Int32 → Int32 → Int32 → Int32 × (Nat → Nat → Int32)) : Int32 × (Nat → Nat → Int32) := (k 0 (g_mi (mJ7_fill_53178 N (mJ7_fill_53178 N M (a0 + 4) 60 0) (a0 + 5) 60 0)) a0 a1 x2 x3 0 0)
def eX1_lay_0 (N : Nat) (M : gM) (a0 : Nat) (a1 : Nat) (x2 : Int32) (x3 : Int32) (k : Nat → (Nat → Nat → Int32) → Nat → Nat → Int32 → Int32 → Int32 → Int32 → Prop) : Prop := (EJ7_fill_53178 N M (a0 + 4) 60 0) ∧ (EJ7_fill_53178 N (mJ7_fill_53178 N M (a0 + 4) 60 0) (a0 + 5) 60 0) ∧ (k 0 (g_mi (mJ7_fill_53178 N (mJ7_fill_53178 N M (a0 + 4) 60 0) (a0 + 5) 60 0)) a0 a1 x2 x3 0 0)
def bX1_lay_19 (N : Nat) (M : gM) (f : Nat → Nat → Int32) (a0 : Nat) (a1 : Nat) (x2 : Int32) (x3 : Int32) (x4 : Int32) (k : Nat → (Nat → Nat → Int32) → Nat → Nat → Int32 → Int32 → Int32 → Int32 → Int32 × (Nat → Nat → Int32)) : Int32 × (Nat → Nat → Int32) := (if (g_mi (g_wm M f (g_ml M)) a1 3) ≤ x4 then (0, g_mi (g_wm M f (g_ml M))) else (k 1 (g_mi (g_wm M f (g_ml M))) a0 a1 x2 x3 x4 0))
def eX1_lay_19 (N : Nat) (M : gM) (f : Nat → Nat → Int32) (a0 : Nat) (a1 : Nat) (x2 : Int32) (x3 : Int32) (x4 : Int32) (k : Nat → (Nat → Nat → Int32) → Nat → Nat → Int32 → Int32 → Int32 → Int32 → Prop) : Prop := (if (g_mi (g_wm M f (g_ml M)) a1 3) ≤ x4 then True else (k 1 (g_mi (g_wm M f (g_ml M))) a0 a1 x2 x3 x4 0))
def bX1_lay_31 (N : Nat) (M : gM) (f : Nat → Nat → Int32) (a0 : Nat) (a1 : Nat) (x2 : Int32) (x3 : Int32) (x4 : Int32) (x5 : Int32) (k : Nat → (Nat → Nat → Int32) → Nat → Nat → Int32 → Int32 → Int32 → Int32 → Int32 × (Nat → Nat → Int32)) : Int32 × (Nat → Nat → Int32) := (if 3 ≤ x5 then (k 0 (g_mi (g_wm M f (g_ml M))) a0 a1 x2 x3 (x4 + 1) 0) else (k 1 (g_mi (g_wi (g_wi (g_wi (g_wm M f (g_ml M)) (a0 + 1) (((3 * x4) + x5)).toNatClampNeg (fX8_vertexOf (g_mi (g_wm M f (g_ml M)) (a1 + 1) (x4).toNatClampNeg) x5 x2 x3)) (a0 + 4) ((fX8_vertexOf (g_mi (g_wm M f (g_ml M)) (a1 + 1) (x4).toNatClampNeg) x5 x2 x3)).toNatClampNeg ((g_mi (g_wi (g_wm M f (g_ml M)) (a0 + 1) (((3 * x4) + x5)).toNatClampNeg (fX8_vertexOf (g_mi (g_wm M f (g_ml M)) (a1 + 1) (x4).toNatClampNeg) x5 x2 x3)) (a0 + 4) ((fX8_vertexOf (g_mi (g_wm M f (g_ml M)) (a1 + 1) (x4).toNatClampNeg) x5 x2 x3)).toNatClampNeg) + 1)) (a0 + 5) ((fX8_vertexOf (g_mi (g_wm M f (g_ml M)) (a1 + 1) (x4).toNatClampNeg) x5 x2 x3)).toNatClampNeg ((g_mi (g_wi (g_wi (g_wm M f (g_ml M)) (a0 + 1) (((3 * x4) + x5)).toNatClampNeg (fX8_vertexOf (g_mi (g_wm M f (g_ml M)) (a1 + 1) (x4).toNatClampNeg) x5 x2 x3)) (a0 + 4) ((fX8_vertexOf (g_mi (g_wm M f (g_ml M)) (a1 + 1) (x4).toNatClampNeg) x5 x2 x3)).toNatClampNeg ((g_mi (g_wi (g_wm M f (g_ml M)) (a0 + 1) (((3 * x4) + x5)).toNatClampNeg (fX8_vertexOf (g_mi (g_wm M f (g_ml M)) (a1 + 1) (x4).toNatClampNeg) x5 x2 x3)) (a0 + 4) ((fX8_vertexOf (g_mi (g_wm M f (g_ml M)) (a1 + 1) (x4).toNatClampNeg) x5 x2 x3)).toNatClampNeg) + 1)) (a0 + 5) ((fX8_vertexOf (g_mi (g_wm M f (g_ml M)) (a1 + 1) (x4).toNatClampNeg) x5 x2 x3)).toNatClampNeg) ^^^ x4))) a0 a1 x2 x3 x4 (x5 + 1)))
def eX1_lay_31 (N : Nat) (M : gM) (f : Nat → Nat → Int32) (a0 : Nat) (a1 : Nat) (x2 : Int32) (x3 : Int32) (x4 : Int32) (x5 : Int32) (k : Nat → (Nat → Nat → Int32) → Nat → Nat → Int32 → Int32 → Int32 → Int32 → Prop) : Prop := ((¬ 3 ≤ x5) → vp_in (x4) 30) ∧ ((¬ 3 ≤ x5) → EX8_vertexOf (g_wm M f (g_ml M)) (g_mi (g_wm M f (g_ml M)) (a1 + 1) (x4).toNatClampNeg) x5 x2 x3) ∧ ((¬ 3 ≤ x5) → vp_in (((3 * x4) + x5)) 90) ∧ ((¬ 3 ≤ x5) → vp_in ((fX8_vertexOf (g_mi (g_wm M f (g_ml M)) (a1 + 1) (x4).toNatClampNeg) x5 x2 x3)) 60) ∧ (if 3 ≤ x5 then (k 0 (g_mi (g_wm M f (g_ml M))) a0 a1 x2 x3 (x4 + 1) 0) else (k 1 (g_mi (g_wi (g_wi (g_wi (g_wm M f (g_ml M)) (a0 + 1) (((3 * x4) + x5)).toNatClampNeg (fX8_vertexOf (g_mi (g_wm M f (g_ml M)) (a1 + 1) (x4).toNatClampNeg) x5 x2 x3)) (a0 + 4) ((fX8_vertexOf (g_mi (g_wm M f (g_ml M)) (a1 + 1) (x4).toNatClampNeg) x5 x2 x3)).toNatClampNeg ((g_mi (g_wi (g_wm M f (g_ml M)) (a0 + 1) (((3 * x4) + x5)).toNatClampNeg (fX8_vertexOf (g_mi (g_wm M f (g_ml M)) (a1 + 1) (x4).toNatClampNeg) x5 x2 x3)) (a0 + 4) ((fX8_vertexOf (g_mi (g_wm M f (g_ml M)) (a1 + 1) (x4).toNatClampNeg) x5 x2 x3)).toNatClampNeg) + 1)) (a0 + 5) ((fX8_vertexOf (g_mi (g_wm M f (g_ml M)) (a1 + 1) (x4).toNatClampNeg) x5 x2 x3)).toNatClampNeg ((g_mi (g_wi (g_wi (g_wm M f (g_ml M)) (a0 + 1) (((3 * x4) + x5)).toNatClampNeg (fX8_vertexOf (g_mi (g_wm M f (g_ml M)) (a1 + 1) (x4).toNatClampNeg) x5 x2 x3)) (a0 + 4) ((fX8_vertexOf (g_mi (g_wm M f (g_ml M)) (a1 + 1) (x4).toNatClampNeg) x5 x2 x3)).toNatClampNeg ((g_mi (g_wi (g_wm M f (g_ml M)) (a0 + 1) (((3 * x4) + x5)).toNatClampNeg (fX8_vertexOf (g_mi (g_wm M f (g_ml M)) (a1 + 1) (x4).toNatClampNeg) x5 x2 x3)) (a0 + 4) ((fX8_vertexOf (g_mi (g_wm M f (g_ml M)) (a1 + 1) (x4).toNatClampNeg) x5 x2 x3)).toNatClampNeg) + 1)) (a0 + 5) ((fX8_vertexOf (g_mi (g_wm M f (g_ml M)) (a1 + 1) (x4).toNatClampNeg) x5 x2 x3)).toNatClampNeg) ^^^ x4))) a0 a1 x2 x3 x4 (x5 + 1)))
def wX1_lay (N : Nat) (M : gM) : Nat → Nat → (Nat → Nat → Int32) → Nat → Nat → Int32 → Int32 → Int32 → Int32 → Int32 × (Nat → Nat → Int32)
  | 0, _, f, _, _, _, _, _, _ => (0, f)
  | n + 1, h, f, a0, a1, x2, x3, x4, x5 => if h = 0 then bX1_lay_19 N M f a0 a1 x2 x3 x4 (wX1_lay N M n) else bX1_lay_31 N M f a0 a1 x2 x3 x4 x5 (wX1_lay N M n)
def vX1_lay (N : Nat) (M : gM) : Nat → Nat → (Nat → Nat → Int32) → Nat → Nat → Int32 → Int32 → Int32 → Int32 → Prop
  | 0, _, _, _, _, _, _, _, _ => False
  | n + 1, h, f, a0, a1, x2, x3, x4, x5 => if h = 0 then eX1_lay_19 N M f a0 a1 x2 x3 x4 (vX1_lay N M n) else eX1_lay_31 N M f a0 a1 x2 x3 x4 x5 (vX1_lay N M n)
set_option maxRecDepth 10000 in
theorem lpX1_lay {X : gX} {d mc ms : Nat} {Q : Option Value → gM → Prop} (N : Nat) (M : gM) : ∀ n : Nat, (∀ (f : Nat → Nat → Int32) (a0 : Nat) (a1 : Nat) (x2 : Int32) (x3 : Int32) (x4 : Int32) (x5 : Int32), Pe M a0 → St M a1 → vX1_lay N M n 0 f a0 a1 x2 x3 x4 x5 → Q none (g_wm M (wX1_lay N M n 0 f a0 a1 x2 x3 x4 x5).2 (g_ml M)) → Go X (d + 1) mc ms kX1_lay Q 19 [(0, .ref a0), (1, .ref a1), (2, .int (x2)), (3, .int (x3)), (4, .int (x4))] [] (g_wm M f (g_ml M)) 0 0) ∧ (∀ (f : Nat → Nat → Int32) (a0 : Nat) (a1 : Nat) (x2 : Int32) (x3 : Int32) (x4 : Int32) (x5 : Int32), Pe M a0 → St M a1 → vX1_lay N M n 1 f a0 a1 x2 x3 x4 x5 → Q none (g_wm M (wX1_lay N M n 1 f a0 a1 x2 x3 x4 x5).2 (g_ml M)) → Go X (d + 1) mc ms kX1_lay Q 31 [(0, .ref a0), (1, .ref a1), (2, .int (x2)), (3, .int (x3)), (4, .int (x4)), (5, .int (x5))] [] (g_wm M f (g_ml M)) 0 0) := by
  intro n
  induction n with
  | zero => exact ⟨fun _ _ _ _ _ _ _ _ _ h _ => h.elim, fun _ _ _ _ _ _ _ _ _ h _ => h.elim⟩
  | succ n ih =>
    refine ⟨?_, ?_⟩
    · intro f a0 a1 x2 x3 x4 x5 s0 s1 hT hQ
      rw [vX1_lay, if_pos (show (0 : Nat) = 0 from rfl)] at hT
      rw [wX1_lay, if_pos (show (0 : Nat) = 0 from rfl)] at hQ
      unfold bX1_lay_19 at hQ
      unfold eX1_lay_19 at hT
      exact sX1_lay_19 (M := (g_wm M f (g_ml M))) (Pe.sm Sm.wm s0) (St.sm Sm.wm s1) (fun c1 => by simp only [if_pos c1] at hQ; exact Sm.q Sm.wm hQ) (Nat.zero_le _) (Nat.zero_le _) (fun c1 => by simp only [if_neg c1] at hQ hT; exact Sm.g Sm.wm (ih.2 _ _ _ _ _ _ _ (s0) (s1) hT hQ))
    · intro f a0 a1 x2 x3 x4 x5 s0 s1 hT hQ
      rw [vX1_lay, if_neg (show ¬ (1 : Nat) = 0 by decide)] at hT
      rw [wX1_lay, if_neg (show ¬ (1 : Nat) = 0 by decide)] at hQ
      unfold bX1_lay_31 at hQ
      unfold eX1_lay_31 at hT
      obtain ⟨b2, b5, b6, b7, hT⟩ := hT
      exact sX1_lay_31 (M := (g_wm M f (g_ml M))) (Pe.sm Sm.wm s0) (St.sm Sm.wm s1) (fun c1 => by simp only [if_pos c1] at hQ hT; exact Sm.g Sm.wm (ih.1 _ _ _ _ _ _ _ (s0) (s1) hT hQ)) b2 (Nat.zero_le _) (Nat.zero_le _) b5 b6 b7 (fun c1 => by simp only [if_neg c1] at hQ hT; exact Sm.g (Sm.tr Sm.wm (Sm.wi (Sm.wi (Sm.wi Sm.rf)))) (ih.2 _ _ _ _ _ _ _ (s0) (s1) hT hQ))
def mX1_lay (N : Nat) (M : gM) (a0 : Nat) (a1 : Nat) (x2 : Int32) (x3 : Int32) : gM := g_wm M (bX1_lay_0 N M a0 a1 x2 x3 (wX1_lay N M N)).2 (g_ml M)
theorem jX1_lay {N : Nat} {M : gM} {a0 : Nat} {a1 : Nat} {x2 : Int32} {x3 : Int32} : Sm M (mX1_lay N M a0 a1 x2 x3) := Sm.wm
def EX1_lay (N : Nat) (M : gM) (a0 : Nat) (a1 : Nat) (x2 : Int32) (x3 : Int32) : Prop := eX1_lay_0 N M a0 a1 x2 x3 (vX1_lay N M N)
theorem tX1_lay {N : Nat} {X : gX} {d mc ms : Nat} {Q : Option Value → gM → Prop} {M : gM} {a0 : Nat} {a1 : Nat} {x2 : Int32} {x3 : Int32} (s0 : Pe M a0) (s1 : St M a1) (hE : EX1_lay N M a0 a1 x2 x3) (hQ : Q none (mX1_lay N M a0 a1 x2 x3)) : Cn X (d + 1) mc ms kX1_lay [.ref a0, .ref a1, .int (x2), .int (x3)] M Q := by
  unfold mX1_lay at hQ
  unfold bX1_lay_0 at hQ
  unfold EX1_lay eX1_lay_0 at hE
  obtain ⟨b1, b2, hT⟩ := hE
  have ih := lpX1_lay (X := X) (d := d) (mc := mc) (ms := ms) (Q := Q) N M N
  exact sX1_lay_0 s0 s1 b1 b2 (Sm.g (Sm.tr (Sm.tr Sm.rf jJ7_fill_53178) jJ7_fill_53178) (ih.1 _ _ _ _ _ _ _ (s0) (s1) hT hQ))
/-! X7_fitsSeen  -/
set_option maxRecDepth 4000 in
theorem sX7_fitsSeen_0 {X : gX} {d mc ms : Nat} {Q : Option Value → gM → Prop} {M : gM} {a0 : Nat} {x1 : Int32} (s0 : Wh M a0) (h1 : Go X (d + 2) mc ms kX7_fitsSeen Q 2 [(0, .ref a0), (1, .int (x1)), (2, .int (0))] [] M 0 0) : Cn X (d + 2) mc ms kX7_fitsSeen [.ref a0, .int (x1)] M Q := by
  refine g_meth rfl rfl (Nat.le_of_ble_eq_true rfl) rfl ?_
  refine g_iconst (0) 1 dX7_fitsSeen_0 rfl rfl ?_
  refine g_istore_n 2 [(2, .int (0)), (0, .ref a0), (1, .int (x1))] dX7_fitsSeen_1 rfl (Nat.le_of_ble_eq_true rfl) rfl ?_
  exact g_sub [1, 2, 0] _ rfl (h1)

set_option maxRecDepth 4000 in
theorem sX7_fitsSeen_2 {X : gX} {d mc ms : Nat} {Q : Option Value → gM → Prop} {M : gM} {c z : Nat} {a0 : Nat} {x1 : Int32} {x2 : Int32} (s0 : Wh M a0) (h1 : ((g_mi M a0 4) ≤ x2) → Q (some (.int (1))) M) (w2 : c ≤ mc) (w3 : z ≤ ms) (b4 : (¬ (g_mi M a0 4) ≤ x2) → vp_in (x2) 6) (b5 : (¬ (g_mi M a0 4) ≤ x2) → EX3_keyHas M (a0 + 1) x1 (g_mi M (a0 + 8) (x2).toNatClampNeg)) (h6 : (¬ (g_mi M a0 4) ≤ x2) → (¬ (g_mi M (a0 + 9) (x2).toNatClampNeg) = 1) → ((fX3_keyHas M (a0 + 1) x1 (g_mi M (a0 + 8) (x2).toNatClampNeg)) = 0) → Go X (d + 2) mc ms kX7_fitsSeen Q 2 [(0, .ref a0), (1, .int (x1)), (2, .int ((x2 + 1)))] [] M c z) (h7 : (¬ (g_mi M a0 4) ≤ x2) → (¬ (g_mi M (a0 + 9) (x2).toNatClampNeg) = 1) → (¬ (fX3_keyHas M (a0 + 1) x1 (g_mi M (a0 + 8) (x2).toNatClampNeg)) = 0) → Q (some (.int (0))) M) (h8 : (¬ (g_mi M a0 4) ≤ x2) → ((g_mi M (a0 + 9) (x2).toNatClampNeg) = 1) → ((fX3_keyHas M (a0 + 1) x1 (g_mi M (a0 + 8) (x2).toNatClampNeg)) = 1) → Go X (d + 2) mc ms kX7_fitsSeen Q 2 [(0, .ref a0), (1, .int (x1)), (2, .int ((x2 + 1)))] [] M c z) (h9 : (¬ (g_mi M a0 4) ≤ x2) → ((g_mi M (a0 + 9) (x2).toNatClampNeg) = 1) → (¬ (fX3_keyHas M (a0 + 1) x1 (g_mi M (a0 + 8) (x2).toNatClampNeg)) = 1) → Q (some (.int (0))) M) : Go X (d + 2) mc ms kX7_fitsSeen Q 2 [(0, .ref a0), (1, .int (x1)), (2, .int (x2))] [] M c z := by
  refine g_iload_n 2 3 dX7_fitsSeen_2 rfl rfl ?_
  refine g_aload_n 0 4 dX7_fitsSeen_3 rfl rfl ?_
  refine g_getI 7 dX7_fitsSeen_4 rfl flX7_39 s0.1 ?_
  refine g_icmp_ge 50 10 dX7_fitsSeen_7 rfl rfl (fun c1 => ?_) (fun c1 => ?_)
  · skip
    refine g_iconst (1) 51 dX7_fitsSeen_50 rfl rfl ?_
    exact g_zret dX7_fitsSeen_51 rfl (by decide) (w2) (w3) (h1 c1)
  · skip
    refine g_aload_n 0 11 dX7_fitsSeen_10 rfl rfl ?_
    refine g_getR 14 (a0 + 1) dX7_fitsSeen_11 rfl flX7_12 s0.1 s0.2.1 ?_
    refine g_iload_n 1 15 dX7_fitsSeen_14 rfl rfl ?_
    refine g_aload_n 0 16 dX7_fitsSeen_15 rfl rfl ?_
    refine g_getR 19 (a0 + 8) dX7_fitsSeen_16 rfl flX7_18 s0.1 s0.2.2.2.1 ?_
    refine g_iload_n 2 20 dX7_fitsSeen_19 rfl rfl ?_
    refine h_iaload 21 (x2).toNatClampNeg dX7_fitsSeen_20 rfl rfl s0.2.2.2.2.1 (b4 c1) ?_
    refine g_callV (mc1 := 0) (ms1 := 0) (b := (a0 + 1)) (rest := []) (av := [.int (x1), .int ((g_mi M (a0 + 8) (x2).toNatClampNeg))]) kX3_keyHas 24 dX7_fitsSeen_21 rfl rfl mbX7_45 imX3_keyHas seX3_keyHas gcl3.1 s0.2.2.1.1 (Nat.le_of_ble_eq_true rfl) (w2) (w3) (tX3_keyHas s0.2.2.1 (b5 c1) ?_)
    show Go X (d + 2) mc ms kX7_fitsSeen Q 24 [(0, .ref a0), (1, .int (x1)), (2, .int (x2))] [.int ((fX3_keyHas M (a0 + 1) x1 (g_mi M (a0 + 8) (x2).toNatClampNeg)))] M c z
    refine g_aload_n 0 25 dX7_fitsSeen_24 rfl rfl ?_
    refine g_getR 28 (a0 + 9) dX7_fitsSeen_25 rfl flX7_22 s0.1 s0.2.2.2.2.2.1 ?_
    refine g_iload_n 2 29 dX7_fitsSeen_28 rfl rfl ?_
    refine h_iaload 30 (x2).toNatClampNeg dX7_fitsSeen_29 rfl rfl s0.2.2.2.2.2.2.1 (b4 c1) ?_
    refine g_iconst (1) 31 dX7_fitsSeen_30 rfl rfl ?_
    refine g_icmp_ne 38 34 dX7_fitsSeen_31 rfl rfl (fun c2 => ?_) (fun c2 => ?_)
    · skip
      refine g_iconst (0) 39 dX7_fitsSeen_38 rfl rfl ?_
      refine g_icmp_eq 44 42 dX7_fitsSeen_39 rfl rfl (fun c3 => ?_) (fun c3 => ?_)
      · skip
        refine g_iinc _ 2 47 [(2, .int ((x2 + 1))), (0, .ref a0), (1, .int (x1))] dX7_fitsSeen_44 rfl rfl rfl (Nat.le_of_ble_eq_true rfl) rfl ?_
        refine g_goto 2 dX7_fitsSeen_47 rfl ?_
        exact g_sub [1, 2, 0] _ rfl (h6 c1 c2 c3)
      · skip
        refine g_iconst (0) 43 dX7_fitsSeen_42 rfl rfl ?_
        exact g_zret dX7_fitsSeen_43 rfl (by decide) (w2) (w3) (h7 c1 c2 c3)
    · skip
      refine g_iconst (1) 35 dX7_fitsSeen_34 rfl rfl ?_
      refine g_goto 39 dX7_fitsSeen_35 rfl ?_
      refine g_icmp_eq 44 42 dX7_fitsSeen_39 rfl rfl (fun c4 => ?_) (fun c4 => ?_)
      · skip
        refine g_iinc _ 2 47 [(2, .int ((x2 + 1))), (0, .ref a0), (1, .int (x1))] dX7_fitsSeen_44 rfl rfl rfl (Nat.le_of_ble_eq_true rfl) rfl ?_
        refine g_goto 2 dX7_fitsSeen_47 rfl ?_
        exact g_sub [1, 2, 0] _ rfl (h8 c1 c2 c4)
      · skip
        refine g_iconst (0) 43 dX7_fitsSeen_42 rfl rfl ?_
        exact g_zret dX7_fitsSeen_43 rfl (by decide) (w2) (w3) (h9 c1 c2 c4)

def bX7_fitsSeen_0 (N : Nat) (M : gM) (a0 : Nat) (x1 : Int32) (k : Nat → Nat → Int32 → Int32 → Int32) : Int32 := (k 0 a0 x1 0)
def eX7_fitsSeen_0 (N : Nat) (M : gM) (a0 : Nat) (x1 : Int32) (k : Nat → Nat → Int32 → Int32 → Prop) : Prop := (k 0 a0 x1 0)
def bX7_fitsSeen_2 (N : Nat) (M : gM) (a0 : Nat) (x1 : Int32) (x2 : Int32) (k : Nat → Nat → Int32 → Int32 → Int32) : Int32 := (if (g_mi M a0 4) ≤ x2 then 1 else (if (g_mi M (a0 + 9) (x2).toNatClampNeg) = 1 then (if (fX3_keyHas M (a0 + 1) x1 (g_mi M (a0 + 8) (x2).toNatClampNeg)) = 1 then (k 0 a0 x1 (x2 + 1)) else 0) else (if (fX3_keyHas M (a0 + 1) x1 (g_mi M (a0 + 8) (x2).toNatClampNeg)) = 0 then (k 0 a0 x1 (x2 + 1)) else 0)))
def eX7_fitsSeen_2 (N : Nat) (M : gM) (a0 : Nat) (x1 : Int32) (x2 : Int32) (k : Nat → Nat → Int32 → Int32 → Prop) : Prop := ((¬ (g_mi M a0 4) ≤ x2) → vp_in (x2) 6) ∧ ((¬ (g_mi M a0 4) ≤ x2) → EX3_keyHas M (a0 + 1) x1 (g_mi M (a0 + 8) (x2).toNatClampNeg)) ∧ (if (g_mi M a0 4) ≤ x2 then True else (if (g_mi M (a0 + 9) (x2).toNatClampNeg) = 1 then (if (fX3_keyHas M (a0 + 1) x1 (g_mi M (a0 + 8) (x2).toNatClampNeg)) = 1 then (k 0 a0 x1 (x2 + 1)) else True) else (if (fX3_keyHas M (a0 + 1) x1 (g_mi M (a0 + 8) (x2).toNatClampNeg)) = 0 then (k 0 a0 x1 (x2 + 1)) else True)))
def wX7_fitsSeen (N : Nat) (M : gM) : Nat → Nat → Nat → Int32 → Int32 → Int32
  | 0, _, _, _, _ => 0
  | n + 1, h, a0, x1, x2 => bX7_fitsSeen_2 N M a0 x1 x2 (wX7_fitsSeen N M n)
def vX7_fitsSeen (N : Nat) (M : gM) : Nat → Nat → Nat → Int32 → Int32 → Prop
  | 0, _, _, _, _ => False
  | n + 1, h, a0, x1, x2 => eX7_fitsSeen_2 N M a0 x1 x2 (vX7_fitsSeen N M n)
set_option maxRecDepth 10000 in
theorem lpX7_fitsSeen {X : gX} {d mc ms : Nat} {Q : Option Value → gM → Prop} (N : Nat) (M : gM) : ∀ n : Nat, (∀ (a0 : Nat) (x1 : Int32) (x2 : Int32), Wh M a0 → vX7_fitsSeen N M n 0 a0 x1 x2 → Q (some (.int (wX7_fitsSeen N M n 0 a0 x1 x2))) M → Go X (d + 2) mc ms kX7_fitsSeen Q 2 [(0, .ref a0), (1, .int (x1)), (2, .int (x2))] [] M 0 0) := by
  intro n
  induction n with
  | zero => exact fun _ _ _ _ h _ => h.elim
  | succ n ih =>
    intro a0 x1 x2 s0 hT hQ
    rw [vX7_fitsSeen] at hT
    rw [wX7_fitsSeen] at hQ
    unfold bX7_fitsSeen_2 at hQ
    unfold eX7_fitsSeen_2 at hT
    obtain ⟨b4, b5, hT⟩ := hT
    exact sX7_fitsSeen_2 (M := M) s0 (fun c1 => by simp only [if_pos c1] at hQ; exact hQ) (Nat.zero_le _) (Nat.zero_le _) b4 b5 (fun c1 c2 c3 => by simp only [if_neg c1, if_neg c2, if_pos c3] at hQ hT; exact ih _ _ _ (s0) hT hQ) (fun c1 c2 c3 => by simp only [if_neg c1, if_neg c2, if_neg c3] at hQ; exact hQ) (fun c1 c2 c4 => by simp only [if_neg c1, if_pos c2, if_pos c4] at hQ hT; exact ih _ _ _ (s0) hT hQ) (fun c1 c2 c4 => by simp only [if_neg c1, if_pos c2, if_neg c4] at hQ; exact hQ)
def fX7_fitsSeen (N : Nat) (M : gM) (a0 : Nat) (x1 : Int32) : Int32 := (bX7_fitsSeen_0 N M a0 x1 (wX7_fitsSeen N M N))
def EX7_fitsSeen (N : Nat) (M : gM) (a0 : Nat) (x1 : Int32) : Prop := eX7_fitsSeen_0 N M a0 x1 (vX7_fitsSeen N M N)
theorem tX7_fitsSeen {N : Nat} {X : gX} {d mc ms : Nat} {Q : Option Value → gM → Prop} {M : gM} {a0 : Nat} {x1 : Int32} (s0 : Wh M a0) (hE : EX7_fitsSeen N M a0 x1) (hQ : Q (some (.int (fX7_fitsSeen N M a0 x1))) M) : Cn X (d + 2) mc ms kX7_fitsSeen [.ref a0, .int (x1)] M Q := by
  unfold fX7_fitsSeen at hQ
  unfold bX7_fitsSeen_0 at hQ
  unfold EX7_fitsSeen eX7_fitsSeen_0 at hE
  have hT := hE
  have ih := lpX7_fitsSeen (X := X) (d := d) (mc := mc) (ms := ms) (Q := Q) N M N
  exact sX7_fitsSeen_0 s0 (ih _ _ _ (s0) hT hQ)
/-! X9_lowerMany  -/
set_option maxRecDepth 4000 in
theorem sX9_lowerMany_0 {X : gX} {d mc ms : Nat} {Q : Option Value → gM → Prop} {M : gM} {a0 : Nat} {x1 : Int32} (s0 : Mo M a0) (h1 : Go X (d + 1) mc ms kX9_lowerMany Q 4 [(0, .ref a0), (1, .int (x1)), (2, .int (0)), (3, .int (0))] [] M 0 0) : Cn X (d + 1) mc ms kX9_lowerMany [.ref a0, .int (x1)] M Q := by
  refine g_meth rfl rfl (Nat.le_of_ble_eq_true rfl) rfl ?_
  refine g_iconst (0) 1 dX9_lowerMany_0 rfl rfl ?_
  refine g_istore_n 2 [(2, .int (0)), (0, .ref a0), (1, .int (x1))] dX9_lowerMany_1 rfl (Nat.le_of_ble_eq_true rfl) rfl ?_
  refine g_iconst (0) 3 dX9_lowerMany_2 rfl rfl ?_
  refine g_istore_n 4 [(3, .int (0)), (2, .int (0)), (0, .ref a0), (1, .int (x1))] dX9_lowerMany_3 rfl (Nat.le_of_ble_eq_true rfl) rfl ?_
  exact g_sub [2, 3, 1, 0] _ rfl (h1)

set_option maxRecDepth 4000 in
theorem sX9_lowerMany_4 {X : gX} {d mc ms : Nat} {Q : Option Value → gM → Prop} {M : gM} {c z : Nat} {a0 : Nat} {x1 : Int32} {x2 : Int32} {x3 : Int32} (s0 : Mo M a0) (h1 : ((g_mi M (a0 + 2) 0) ≤ x3) → Q (some (.int (x2))) M) (w2 : c ≤ mc) (w3 : z ≤ ms) (b4 : (¬ (g_mi M (a0 + 2) 0) ≤ x3) → EX9_keyAt M a0 x3) (h5 : (¬ (g_mi M (a0 + 2) 0) ≤ x3) → (x1 ≤ (fX9_keyAt M a0 x3)) → Go X (d + 1) mc ms kX9_lowerMany Q 4 [(0, .ref a0), (1, .int (x1)), (2, .int ((x2 + 0))), (3, .int ((x3 + 1)))] [] M c z) (h6 : (¬ (g_mi M (a0 + 2) 0) ≤ x3) → (¬ x1 ≤ (fX9_keyAt M a0 x3)) → Go X (d + 1) mc ms kX9_lowerMany Q 4 [(0, .ref a0), (1, .int (x1)), (2, .int ((x2 + 1))), (3, .int ((x3 + 1)))] [] M c z) : Go X (d + 1) mc ms kX9_lowerMany Q 4 [(0, .ref a0), (1, .int (x1)), (2, .int (x2)), (3, .int (x3))] [] M c z := by
  refine g_iload_n 3 5 dX9_lowerMany_4 rfl rfl ?_
  refine g_aload_n 0 6 dX9_lowerMany_5 rfl rfl ?_
  refine g_getR 9 (a0 + 2) dX9_lowerMany_6 rfl flX9_28 s0.1 s0.2.2.2.1 ?_
  refine g_iconst (0) 10 dX9_lowerMany_9 rfl rfl ?_
  refine h_iaload 11 0 dX9_lowerMany_10 rfl rfl s0.2.2.2.2.1 (vp_lit rfl) ?_
  refine g_icmp_ge 37 14 dX9_lowerMany_11 rfl rfl (fun c1 => ?_) (fun c1 => ?_)
  · skip
    refine g_iload_n 2 38 dX9_lowerMany_37 rfl rfl ?_
    exact g_iret dX9_lowerMany_38 rfl (w2) (w3) (h1 c1)
  · skip
    refine g_iload_n 2 15 dX9_lowerMany_14 rfl rfl ?_
    refine g_aload_n 0 16 dX9_lowerMany_15 rfl rfl ?_
    refine g_iload_n 3 17 dX9_lowerMany_16 rfl rfl ?_
    refine g_callV (mc1 := 0) (ms1 := 0) (b := a0) (rest := [.int (x2)]) (av := [.int (x3)]) kX9_keyAt 20 dX9_lowerMany_17 rfl rfl mbX9_109 imX9_keyAt seX9_keyAt gcl9.1 s0.1 (Nat.le_of_ble_eq_true rfl) (w2) (w3) (tX9_keyAt s0 (b4 c1) ?_)
    show Go X (d + 1) mc ms kX9_lowerMany Q 20 [(0, .ref a0), (1, .int (x1)), (2, .int (x2)), (3, .int (x3))] [.int ((fX9_keyAt M a0 x3)), .int (x2)] M c z
    refine g_iload_n 1 21 dX9_lowerMany_20 rfl rfl ?_
    refine g_icmp_ge 28 24 dX9_lowerMany_21 rfl rfl (fun c2 => ?_) (fun c2 => ?_)
    · skip
      refine g_iconst (0) 29 dX9_lowerMany_28 rfl rfl ?_
      refine g_iadd 30 dX9_lowerMany_29 rfl ?_
      refine g_istore_n 31 [(2, .int ((x2 + 0))), (0, .ref a0), (1, .int (x1)), (3, .int (x3))] dX9_lowerMany_30 rfl (Nat.le_of_ble_eq_true rfl) rfl ?_
      refine g_iinc _ 3 34 [(3, .int ((x3 + 1))), (2, .int ((x2 + 0))), (0, .ref a0), (1, .int (x1))] dX9_lowerMany_31 rfl rfl rfl (Nat.le_of_ble_eq_true rfl) rfl ?_
      refine g_goto 4 dX9_lowerMany_34 rfl ?_
      exact g_sub [2, 3, 1, 0] _ rfl (h5 c1 c2)
    · skip
      refine g_iconst (1) 25 dX9_lowerMany_24 rfl rfl ?_
      refine g_goto 29 dX9_lowerMany_25 rfl ?_
      refine g_iadd 30 dX9_lowerMany_29 rfl ?_
      refine g_istore_n 31 [(2, .int ((x2 + 1))), (0, .ref a0), (1, .int (x1)), (3, .int (x3))] dX9_lowerMany_30 rfl (Nat.le_of_ble_eq_true rfl) rfl ?_
      refine g_iinc _ 3 34 [(3, .int ((x3 + 1))), (2, .int ((x2 + 1))), (0, .ref a0), (1, .int (x1))] dX9_lowerMany_31 rfl rfl rfl (Nat.le_of_ble_eq_true rfl) rfl ?_
      refine g_goto 4 dX9_lowerMany_34 rfl ?_
      exact g_sub [2, 3, 1, 0] _ rfl (h6 c1 c2)

def bX9_lowerMany_0 (N : Nat) (M : gM) (a0 : Nat) (x1 : Int32) (k : Nat → Nat → Int32 → Int32 → Int32 → Int32) : Int32 := (k 0 a0 x1 0 0)
def eX9_lowerMany_0 (N : Nat) (M : gM) (a0 : Nat) (x1 : Int32) (k : Nat → Nat → Int32 → Int32 → Int32 → Prop) : Prop := (k 0 a0 x1 0 0)
def bX9_lowerMany_4 (N : Nat) (M : gM) (a0 : Nat) (x1 : Int32) (x2 : Int32) (x3 : Int32) (k : Nat → Nat → Int32 → Int32 → Int32 → Int32) : Int32 := (if (g_mi M (a0 + 2) 0) ≤ x3 then x2 else (if x1 ≤ (fX9_keyAt M a0 x3) then (k 0 a0 x1 (x2 + 0) (x3 + 1)) else (k 0 a0 x1 (x2 + 1) (x3 + 1))))
def eX9_lowerMany_4 (N : Nat) (M : gM) (a0 : Nat) (x1 : Int32) (x2 : Int32) (x3 : Int32) (k : Nat → Nat → Int32 → Int32 → Int32 → Prop) : Prop := ((¬ (g_mi M (a0 + 2) 0) ≤ x3) → EX9_keyAt M a0 x3) ∧ (if (g_mi M (a0 + 2) 0) ≤ x3 then True else (if x1 ≤ (fX9_keyAt M a0 x3) then (k 0 a0 x1 (x2 + 0) (x3 + 1)) else (k 0 a0 x1 (x2 + 1) (x3 + 1))))
def wX9_lowerMany (N : Nat) (M : gM) : Nat → Nat → Nat → Int32 → Int32 → Int32 → Int32
  | 0, _, _, _, _, _ => 0
  | n + 1, h, a0, x1, x2, x3 => bX9_lowerMany_4 N M a0 x1 x2 x3 (wX9_lowerMany N M n)
def vX9_lowerMany (N : Nat) (M : gM) : Nat → Nat → Nat → Int32 → Int32 → Int32 → Prop
  | 0, _, _, _, _, _ => False
  | n + 1, h, a0, x1, x2, x3 => eX9_lowerMany_4 N M a0 x1 x2 x3 (vX9_lowerMany N M n)
set_option maxRecDepth 10000 in
theorem lpX9_lowerMany {X : gX} {d mc ms : Nat} {Q : Option Value → gM → Prop} (N : Nat) (M : gM) : ∀ n : Nat, (∀ (a0 : Nat) (x1 : Int32) (x2 : Int32) (x3 : Int32), Mo M a0 → vX9_lowerMany N M n 0 a0 x1 x2 x3 → Q (some (.int (wX9_lowerMany N M n 0 a0 x1 x2 x3))) M → Go X (d + 1) mc ms kX9_lowerMany Q 4 [(0, .ref a0), (1, .int (x1)), (2, .int (x2)), (3, .int (x3))] [] M 0 0) := by
  intro n
  induction n with
  | zero => exact fun _ _ _ _ _ h _ => h.elim
  | succ n ih =>
    intro a0 x1 x2 x3 s0 hT hQ
    rw [vX9_lowerMany] at hT
    rw [wX9_lowerMany] at hQ
    unfold bX9_lowerMany_4 at hQ
    unfold eX9_lowerMany_4 at hT
    obtain ⟨b4, hT⟩ := hT
    exact sX9_lowerMany_4 (M := M) s0 (fun c1 => by simp only [if_pos c1] at hQ; exact hQ) (Nat.zero_le _) (Nat.zero_le _) b4 (fun c1 c2 => by simp only [if_neg c1, if_pos c2] at hQ hT; exact ih _ _ _ _ (s0) hT hQ) (fun c1 c2 => by simp only [if_neg c1, if_neg c2] at hQ hT; exact ih _ _ _ _ (s0) hT hQ)
def fX9_lowerMany (N : Nat) (M : gM) (a0 : Nat) (x1 : Int32) : Int32 := (bX9_lowerMany_0 N M a0 x1 (wX9_lowerMany N M N))
def EX9_lowerMany (N : Nat) (M : gM) (a0 : Nat) (x1 : Int32) : Prop := eX9_lowerMany_0 N M a0 x1 (vX9_lowerMany N M N)
theorem tX9_lowerMany {N : Nat} {X : gX} {d mc ms : Nat} {Q : Option Value → gM → Prop} {M : gM} {a0 : Nat} {x1 : Int32} (s0 : Mo M a0) (hE : EX9_lowerMany N M a0 x1) (hQ : Q (some (.int (fX9_lowerMany N M a0 x1))) M) : Cn X (d + 1) mc ms kX9_lowerMany [.ref a0, .int (x1)] M Q := by
  unfold fX9_lowerMany at hQ
  unfold bX9_lowerMany_0 at hQ
  unfold EX9_lowerMany eX9_lowerMany_0 at hE
  have hT := hE
  have ih := lpX9_lowerMany (X := X) (d := d) (mc := mc) (ms := ms) (Q := Q) N M N
  exact sX9_lowerMany_0 s0 (ih _ _ _ _ (s0) hT hQ)
/-! X9_isThere  -/
set_option maxRecDepth 4000 in
theorem sX9_isThere_0 {N : Nat} {X : gX} {d mc ms : Nat} {Q : Option Value → gM → Prop} {M : gM} {a0 : Nat} {x1 : Int32} (s0 : Mo M a0) (b1 : EX9_lowerMany N M a0 x1) (h2 : ((g_mi M (a0 + 2) 0) ≤ (fX9_lowerMany N M a0 x1)) → Q (some (.int (0))) M) (b3 : (¬ (g_mi M (a0 + 2) 0) ≤ (fX9_lowerMany N M a0 x1)) → EX9_keyAt M a0 (fX9_lowerMany N M a0 x1)) (h4 : (¬ (g_mi M (a0 + 2) 0) ≤ (fX9_lowerMany N M a0 x1)) → (¬ (fX9_keyAt M a0 (fX9_lowerMany N M a0 x1)) = x1) → Q (some (.int (0))) M) (h5 : (¬ (g_mi M (a0 + 2) 0) ≤ (fX9_lowerMany N M a0 x1)) → ((fX9_keyAt M a0 (fX9_lowerMany N M a0 x1)) = x1) → Q (some (.int (1))) M) : Cn X (d + 2) mc ms kX9_isThere [.ref a0, .int (x1)] M Q := by
  refine g_meth rfl rfl (Nat.le_of_ble_eq_true rfl) rfl ?_
  refine g_aload_n 0 1 dX9_isThere_0 rfl rfl ?_
  refine g_iload_n 1 2 dX9_isThere_1 rfl rfl ?_
  refine g_callV (mc1 := 0) (ms1 := 0) (b := a0) (rest := []) (av := [.int (x1)]) kX9_lowerMany 5 dX9_isThere_2 rfl rfl mbX9_112 imX9_lowerMany seX9_lowerMany gcl9.1 s0.1 (Nat.le_of_ble_eq_true rfl) (Nat.zero_le _) (Nat.zero_le _) (tX9_lowerMany (N := N) s0 (b1) ?_)
  show Go X (d + 2) mc ms kX9_isThere Q 5 [(0, .ref a0), (1, .int (x1))] [.int ((fX9_lowerMany N M a0 x1))] M 0 0
  refine g_istore_n 6 [(2, .int ((fX9_lowerMany N M a0 x1))), (0, .ref a0), (1, .int (x1))] dX9_isThere_5 rfl (Nat.le_of_ble_eq_true rfl) rfl ?_
  refine g_iload_n 0 7 dX9_isThere_6 rfl rfl ?_
  refine g_aload_n 1 8 dX9_isThere_7 rfl rfl ?_
  refine g_getR 11 (a0 + 2) dX9_isThere_8 rfl flX9_28 s0.1 s0.2.2.2.1 ?_
  refine g_iconst (0) 12 dX9_isThere_11 rfl rfl ?_
  refine h_iaload 13 0 dX9_isThere_12 rfl rfl s0.2.2.2.2.1 (vp_lit rfl) ?_
  refine g_icmp_ge 29 16 dX9_isThere_13 rfl rfl (fun c1 => ?_) (fun c1 => ?_)
  · skip
    refine g_iconst (0) 30 dX9_isThere_29 rfl rfl ?_
    exact g_zret dX9_isThere_30 rfl (by decide) (Nat.zero_le _) (Nat.zero_le _) (h2 c1)
  · skip
    refine g_aload_n 1 17 dX9_isThere_16 rfl rfl ?_
    refine g_iload_n 0 18 dX9_isThere_17 rfl rfl ?_
    refine g_callV (mc1 := 0) (ms1 := 0) (b := a0) (rest := []) (av := [.int ((fX9_lowerMany N M a0 x1))]) kX9_keyAt 21 dX9_isThere_18 rfl rfl mbX9_109 imX9_keyAt seX9_keyAt gcl9.1 s0.1 (Nat.le_of_ble_eq_true rfl) (Nat.zero_le _) (Nat.zero_le _) (tX9_keyAt s0 (b3 c1) ?_)
    show Go X (d + 2) mc ms kX9_isThere Q 21 [(2, .int ((fX9_lowerMany N M a0 x1))), (0, .ref a0), (1, .int (x1))] [.int ((fX9_keyAt M a0 (fX9_lowerMany N M a0 x1)))] M 0 0
    refine g_iload_n 2 22 dX9_isThere_21 rfl rfl ?_
    refine g_icmp_ne 29 25 dX9_isThere_22 rfl rfl (fun c2 => ?_) (fun c2 => ?_)
    · skip
      refine g_iconst (0) 30 dX9_isThere_29 rfl rfl ?_
      exact g_zret dX9_isThere_30 rfl (by decide) (Nat.zero_le _) (Nat.zero_le _) (h4 c1 c2)
    · skip
      refine g_iconst (1) 26 dX9_isThere_25 rfl rfl ?_
      refine g_goto 30 dX9_isThere_26 rfl ?_
      exact g_zret dX9_isThere_30 rfl (by decide) (Nat.zero_le _) (Nat.zero_le _) (h5 c1 c2)

def fX9_isThere (N : Nat) (M : gM) (a0 : Nat) (x1 : Int32) : Int32 := (if (g_mi M (a0 + 2) 0) ≤ (fX9_lowerMany N M a0 x1) then 0 else (if (fX9_keyAt M a0 (fX9_lowerMany N M a0 x1)) = x1 then 1 else 0))
def EX9_isThere (N : Nat) (M : gM) (a0 : Nat) (x1 : Int32) : Prop := (EX9_lowerMany N M a0 x1) ∧ ((¬ (g_mi M (a0 + 2) 0) ≤ (fX9_lowerMany N M a0 x1)) → EX9_keyAt M a0 (fX9_lowerMany N M a0 x1))
theorem tX9_isThere {N : Nat} {X : gX} {d mc ms : Nat} {Q : Option Value → gM → Prop} {M : gM} {a0 : Nat} {x1 : Int32} (s0 : Mo M a0) (hE : EX9_isThere N M a0 x1) (hQ : Q (some (.int (fX9_isThere N M a0 x1))) M) : Cn X (d + 2) mc ms kX9_isThere [.ref a0, .int (x1)] M Q := by
  unfold fX9_isThere at hQ
  obtain ⟨b1, b3⟩ := hE
  exact sX9_isThere_0 s0 b1 (fun c1 => by simp only [if_pos c1] at hQ; exact hQ) b3 (fun c1 c2 => by simp only [if_neg c1, if_neg c2] at hQ; exact hQ) (fun c1 c2 => by simp only [if_neg c1, if_pos c2] at hQ; exact hQ)
/-! X9_hasVertex  -/
set_option maxRecDepth 4000 in
theorem sX9_hasVertex_0 {X : gX} {d mc ms : Nat} {Q : Option Value → gM → Prop} {M : gM} {x0 : Int32} {x1 : Int32} {x2 : Int32} {x3 : Int32} (h1 : Go X (d + 1) mc ms kX9_hasVertex Q 6 [(0, .int (x0)), (1, .int (x1)), (2, .int (x2)), (3, .int (x3)), (4, .int (0)), (5, .int (0))] [] M 0 0) : Cn X (d + 1) mc ms kX9_hasVertex [.int (x0), .int (x1), .int (x2), .int (x3)] M Q := by
  refine g_meth rfl rfl (Nat.le_of_ble_eq_true rfl) rfl ?_
  refine g_iconst (0) 1 dX9_hasVertex_0 rfl rfl ?_
  refine g_istore 3 [(4, .int (0)), (0, .int (x0)), (1, .int (x1)), (2, .int (x2)), (3, .int (x3))] dX9_hasVertex_1 rfl (Nat.le_of_ble_eq_true rfl) rfl ?_
  refine g_iconst (0) 4 dX9_hasVertex_3 rfl rfl ?_
  refine g_istore 6 [(5, .int (0)), (4, .int (0)), (0, .int (x0)), (1, .int (x1)), (2, .int (x2)), (3, .int (x3))] dX9_hasVertex_4 rfl (Nat.le_of_ble_eq_true rfl) rfl ?_
  exact g_sub [2, 3, 4, 5, 1, 0] _ rfl (h1)

set_option maxRecDepth 4000 in
theorem sX9_hasVertex_6 {X : gX} {d mc ms : Nat} {Q : Option Value → gM → Prop} {M : gM} {c z : Nat} {x0 : Int32} {x1 : Int32} {x2 : Int32} {x3 : Int32} {x4 : Int32} {x5 : Int32} (h1 : (3 ≤ x5) → Q (some (.int (x4))) M) (b2 : (3 ≤ x5) → x4 = 0 ∨ x4 = 1) (w3 : c ≤ mc) (w4 : z ≤ ms) (h5 : (¬ 3 ≤ x5) → (¬ x4 = 0) → Go X (d + 1) mc ms kX9_hasVertex Q 6 [(0, .int (x0)), (1, .int (x1)), (2, .int (x2)), (3, .int (x3)), (4, .int (1)), (5, .int ((x5 + 1)))] [] M c z) (b6 : (¬ 3 ≤ x5) → (x4 = 0) → EX9_vertexOf M x0 x5 x2 x3) (h7 : (¬ 3 ≤ x5) → (x4 = 0) → (¬ (fX9_vertexOf x0 x5 x2 x3) = x1) → Go X (d + 1) mc ms kX9_hasVertex Q 6 [(0, .int (x0)), (1, .int (x1)), (2, .int (x2)), (3, .int (x3)), (4, .int (0)), (5, .int ((x5 + 1)))] [] M c z) (h8 : (¬ 3 ≤ x5) → (x4 = 0) → ((fX9_vertexOf x0 x5 x2 x3) = x1) → Go X (d + 1) mc ms kX9_hasVertex Q 6 [(0, .int (x0)), (1, .int (x1)), (2, .int (x2)), (3, .int (x3)), (4, .int (1)), (5, .int ((x5 + 1)))] [] M c z) : Go X (d + 1) mc ms kX9_hasVertex Q 6 [(0, .int (x0)), (1, .int (x1)), (2, .int (x2)), (3, .int (x3)), (4, .int (x4)), (5, .int (x5))] [] M c z := by
  refine g_iload 5 8 dX9_hasVertex_6 rfl rfl ?_
  refine g_iconst (3) 9 dX9_hasVertex_8 rfl rfl ?_
  refine g_icmp_ge 42 12 dX9_hasVertex_9 rfl rfl (fun c1 => ?_) (fun c1 => ?_)
  · skip
    refine g_iload 4 44 dX9_hasVertex_42 rfl rfl ?_
    exact g_zret dX9_hasVertex_44 rfl (b2 c1) (w3) (w4) (h1 c1)
  · skip
    refine g_iload 4 14 dX9_hasVertex_12 rfl rfl ?_
    refine g_if_ne 29 17 dX9_hasVertex_14 rfl rfl (fun c2 => ?_) (fun c2 => ?_)
    · skip
      refine g_iconst (1) 30 dX9_hasVertex_29 rfl rfl ?_
      refine g_goto 34 dX9_hasVertex_30 rfl ?_
      refine g_istore 36 [(4, .int (1)), (0, .int (x0)), (1, .int (x1)), (2, .int (x2)), (3, .int (x3)), (5, .int (x5))] dX9_hasVertex_34 rfl (Nat.le_of_ble_eq_true rfl) rfl ?_
      refine g_iinc _ 5 39 [(5, .int ((x5 + 1))), (4, .int (1)), (0, .int (x0)), (1, .int (x1)), (2, .int (x2)), (3, .int (x3))] dX9_hasVertex_36 rfl rfl rfl (Nat.le_of_ble_eq_true rfl) rfl ?_
      refine g_goto 6 dX9_hasVertex_39 rfl ?_
      exact g_sub [2, 3, 4, 5, 1, 0] _ rfl (h5 c1 c2)
    · skip
      refine g_iload_n 0 18 dX9_hasVertex_17 rfl rfl ?_
      refine g_iload 5 20 dX9_hasVertex_18 rfl rfl ?_
      refine g_iload_n 2 21 dX9_hasVertex_20 rfl rfl ?_
      refine g_iload_n 3 22 dX9_hasVertex_21 rfl rfl ?_
      refine g_callS (mc1 := 0) (ms1 := 0) (rest := []) (av := [.int (x0), .int (x5), .int (x2), .int (x3)]) kX9_vertexOf 25 dX9_hasVertex_22 rfl rfl mbX9_115 smX9_vertexOf (Nat.le_of_ble_eq_true rfl) (w3) (w4) (tX9_vertexOf (b6 c1 c2) ?_)
      show Go X (d + 1) mc ms kX9_hasVertex Q 25 [(0, .int (x0)), (1, .int (x1)), (2, .int (x2)), (3, .int (x3)), (4, .int (x4)), (5, .int (x5))] [.int ((fX9_vertexOf x0 x5 x2 x3))] M c z
      refine g_iload_n 1 26 dX9_hasVertex_25 rfl rfl ?_
      refine g_icmp_ne 33 29 dX9_hasVertex_26 rfl rfl (fun c3 => ?_) (fun c3 => ?_)
      · skip
        refine g_iconst (0) 34 dX9_hasVertex_33 rfl rfl ?_
        refine g_istore 36 [(4, .int (0)), (0, .int (x0)), (1, .int (x1)), (2, .int (x2)), (3, .int (x3)), (5, .int (x5))] dX9_hasVertex_34 rfl (Nat.le_of_ble_eq_true rfl) rfl ?_
        refine g_iinc _ 5 39 [(5, .int ((x5 + 1))), (4, .int (0)), (0, .int (x0)), (1, .int (x1)), (2, .int (x2)), (3, .int (x3))] dX9_hasVertex_36 rfl rfl rfl (Nat.le_of_ble_eq_true rfl) rfl ?_
        refine g_goto 6 dX9_hasVertex_39 rfl ?_
        exact g_sub [2, 3, 4, 5, 1, 0] _ rfl (h7 c1 c2 c3)
      · skip
        refine g_iconst (1) 30 dX9_hasVertex_29 rfl rfl ?_
        refine g_goto 34 dX9_hasVertex_30 rfl ?_
        refine g_istore 36 [(4, .int (1)), (0, .int (x0)), (1, .int (x1)), (2, .int (x2)), (3, .int (x3)), (5, .int (x5))] dX9_hasVertex_34 rfl (Nat.le_of_ble_eq_true rfl) rfl ?_
        refine g_iinc _ 5 39 [(5, .int ((x5 + 1))), (4, .int (1)), (0, .int (x0)), (1, .int (x1)), (2, .int (x2)), (3, .int (x3))] dX9_hasVertex_36 rfl rfl rfl (Nat.le_of_ble_eq_true rfl) rfl ?_
        refine g_goto 6 dX9_hasVertex_39 rfl ?_
        exact g_sub [2, 3, 4, 5, 1, 0] _ rfl (h8 c1 c2 c3)

def bX9_hasVertex_0 (N : Nat) (M : gM) (x0 : Int32) (x1 : Int32) (x2 : Int32) (x3 : Int32) (k : Nat → Int32 → Int32 → Int32 → Int32 → Int32 → Int32 → Int32) : Int32 := (k 0 x0 x1 x2 x3 0 0)
def eX9_hasVertex_0 (N : Nat) (M : gM) (x0 : Int32) (x1 : Int32) (x2 : Int32) (x3 : Int32) (k : Nat → Int32 → Int32 → Int32 → Int32 → Int32 → Int32 → Prop) : Prop := (k 0 x0 x1 x2 x3 0 0)
def bX9_hasVertex_6 (N : Nat) (M : gM) (x0 : Int32) (x1 : Int32) (x2 : Int32) (x3 : Int32) (x4 : Int32) (x5 : Int32) (k : Nat → Int32 → Int32 → Int32 → Int32 → Int32 → Int32 → Int32) : Int32 := (if 3 ≤ x5 then x4 else (if x4 = 0 then (if (fX9_vertexOf x0 x5 x2 x3) = x1 then (k 0 x0 x1 x2 x3 1 (x5 + 1)) else (k 0 x0 x1 x2 x3 0 (x5 + 1))) else (k 0 x0 x1 x2 x3 1 (x5 + 1))))
def eX9_hasVertex_6 (N : Nat) (M : gM) (x0 : Int32) (x1 : Int32) (x2 : Int32) (x3 : Int32) (x4 : Int32) (x5 : Int32) (k : Nat → Int32 → Int32 → Int32 → Int32 → Int32 → Int32 → Prop) : Prop := ((3 ≤ x5) → x4 = 0 ∨ x4 = 1) ∧ ((¬ 3 ≤ x5) → (x4 = 0) → EX9_vertexOf M x0 x5 x2 x3) ∧ (if 3 ≤ x5 then True else (if x4 = 0 then (if (fX9_vertexOf x0 x5 x2 x3) = x1 then (k 0 x0 x1 x2 x3 1 (x5 + 1)) else (k 0 x0 x1 x2 x3 0 (x5 + 1))) else (k 0 x0 x1 x2 x3 1 (x5 + 1))))
def wX9_hasVertex (N : Nat) (M : gM) : Nat → Nat → Int32 → Int32 → Int32 → Int32 → Int32 → Int32 → Int32
  | 0, _, _, _, _, _, _, _ => 0
  | n + 1, h, x0, x1, x2, x3, x4, x5 => bX9_hasVertex_6 N M x0 x1 x2 x3 x4 x5 (wX9_hasVertex N M n)
def vX9_hasVertex (N : Nat) (M : gM) : Nat → Nat → Int32 → Int32 → Int32 → Int32 → Int32 → Int32 → Prop
  | 0, _, _, _, _, _, _, _ => False
  | n + 1, h, x0, x1, x2, x3, x4, x5 => eX9_hasVertex_6 N M x0 x1 x2 x3 x4 x5 (vX9_hasVertex N M n)
set_option maxRecDepth 10000 in
theorem lpX9_hasVertex {X : gX} {d mc ms : Nat} {Q : Option Value → gM → Prop} (N : Nat) (M : gM) : ∀ n : Nat, (∀ (x0 : Int32) (x1 : Int32) (x2 : Int32) (x3 : Int32) (x4 : Int32) (x5 : Int32), vX9_hasVertex N M n 0 x0 x1 x2 x3 x4 x5 → Q (some (.int (wX9_hasVertex N M n 0 x0 x1 x2 x3 x4 x5))) M → Go X (d + 1) mc ms kX9_hasVertex Q 6 [(0, .int (x0)), (1, .int (x1)), (2, .int (x2)), (3, .int (x3)), (4, .int (x4)), (5, .int (x5))] [] M 0 0) := by
  intro n
  induction n with
  | zero => exact fun _ _ _ _ _ _  h _ => h.elim
  | succ n ih =>
    intro x0 x1 x2 x3 x4 x5 hT hQ
    rw [vX9_hasVertex] at hT
    rw [wX9_hasVertex] at hQ
    unfold bX9_hasVertex_6 at hQ
    unfold eX9_hasVertex_6 at hT
    obtain ⟨b2, b6, hT⟩ := hT
    exact sX9_hasVertex_6 (M := M) (fun c1 => by simp only [if_pos c1] at hQ; exact hQ) b2 (Nat.zero_le _) (Nat.zero_le _) (fun c1 c2 => by simp only [if_neg c1, if_neg c2] at hQ hT; exact ih _ _ _ _ _ _  hT hQ) b6 (fun c1 c2 c3 => by simp only [if_neg c1, if_pos c2, if_neg c3] at hQ hT; exact ih _ _ _ _ _ _  hT hQ) (fun c1 c2 c3 => by simp only [if_neg c1, if_pos c2, if_pos c3] at hQ hT; exact ih _ _ _ _ _ _  hT hQ)
def fX9_hasVertex (N : Nat) (M : gM) (x0 : Int32) (x1 : Int32) (x2 : Int32) (x3 : Int32) : Int32 := (bX9_hasVertex_0 N M x0 x1 x2 x3 (wX9_hasVertex N M N))
def EX9_hasVertex (N : Nat) (M : gM) (x0 : Int32) (x1 : Int32) (x2 : Int32) (x3 : Int32) : Prop := eX9_hasVertex_0 N M x0 x1 x2 x3 (vX9_hasVertex N M N)
theorem tX9_hasVertex {N : Nat} {X : gX} {d mc ms : Nat} {Q : Option Value → gM → Prop} {M : gM} {x0 : Int32} {x1 : Int32} {x2 : Int32} {x3 : Int32}  (hE : EX9_hasVertex N M x0 x1 x2 x3) (hQ : Q (some (.int (fX9_hasVertex N M x0 x1 x2 x3))) M) : Cn X (d + 1) mc ms kX9_hasVertex [.int (x0), .int (x1), .int (x2), .int (x3)] M Q := by
  unfold fX9_hasVertex at hQ
  unfold bX9_hasVertex_0 at hQ
  unfold EX9_hasVertex eX9_hasVertex_0 at hE
  have hT := hE
  have ih := lpX9_hasVertex (X := X) (d := d) (mc := mc) (ms := ms) (Q := Q) N M N
  exact sX9_hasVertex_0 (ih _ _ _ _ _ _  hT hQ)
/-! X9_degreeOf  -/
set_option maxRecDepth 4000 in
theorem sX9_degreeOf_0 {X : gX} {d mc ms : Nat} {Q : Option Value → gM → Prop} {M : gM} {a0 : Nat} {x1 : Int32} {x2 : Int32} (s0 : Mo M a0) (h1 : Go X (d + 2) mc ms kX9_degreeOf Q 5 [(0, .ref a0), (1, .int (x1)), (2, .int (x2)), (3, .int (0)), (4, .int (0))] [] M 0 0) : Cn X (d + 2) mc ms kX9_degreeOf [.ref a0, .int (x1), .int (x2)] M Q := by
  refine g_meth rfl rfl (Nat.le_of_ble_eq_true rfl) rfl ?_
  refine g_iconst (0) 1 dX9_degreeOf_0 rfl rfl ?_
  refine g_istore_n 2 [(3, .int (0)), (0, .ref a0), (1, .int (x1)), (2, .int (x2))] dX9_degreeOf_1 rfl (Nat.le_of_ble_eq_true rfl) rfl ?_
  refine g_iconst (0) 3 dX9_degreeOf_2 rfl rfl ?_
  refine g_istore 5 [(4, .int (0)), (3, .int (0)), (0, .ref a0), (1, .int (x1)), (2, .int (x2))] dX9_degreeOf_3 rfl (Nat.le_of_ble_eq_true rfl) rfl ?_
  exact g_sub [2, 3, 4, 1, 0] _ rfl (h1)

set_option maxRecDepth 4000 in
theorem sX9_degreeOf_5 {N : Nat} {X : gX} {d mc ms : Nat} {Q : Option Value → gM → Prop} {M : gM} {c z : Nat} {a0 : Nat} {x1 : Int32} {x2 : Int32} {x3 : Int32} {x4 : Int32} (s0 : Mo M a0) (h1 : ((g_mi M (a0 + 2) 0) ≤ x4) → Q (some (.int (x3))) M) (w2 : c ≤ mc) (w3 : z ≤ ms) (b4 : (¬ (g_mi M (a0 + 2) 0) ≤ x4) → EX9_keyAt M a0 x4) (b5 : (¬ (g_mi M (a0 + 2) 0) ≤ x4) → EX9_hasVertex N M (fX9_keyAt M a0 x4) x1 x2 (g_mi M (a0 + 2) 31)) (h6 : (¬ (g_mi M (a0 + 2) 0) ≤ x4) → ((fX9_hasVertex N M (fX9_keyAt M a0 x4) x1 x2 (g_mi M (a0 + 2) 31)) = 0) → Go X (d + 2) mc ms kX9_degreeOf Q 5 [(0, .ref a0), (1, .int (x1)), (2, .int (x2)), (3, .int ((x3 + 0))), (4, .int ((x4 + 1)))] [] M c z) (h7 : (¬ (g_mi M (a0 + 2) 0) ≤ x4) → (¬ (fX9_hasVertex N M (fX9_keyAt M a0 x4) x1 x2 (g_mi M (a0 + 2) 31)) = 0) → Go X (d + 2) mc ms kX9_degreeOf Q 5 [(0, .ref a0), (1, .int (x1)), (2, .int (x2)), (3, .int ((x3 + 1))), (4, .int ((x4 + 1)))] [] M c z) : Go X (d + 2) mc ms kX9_degreeOf Q 5 [(0, .ref a0), (1, .int (x1)), (2, .int (x2)), (3, .int (x3)), (4, .int (x4))] [] M c z := by
  refine g_iload 4 7 dX9_degreeOf_5 rfl rfl ?_
  refine g_aload_n 0 8 dX9_degreeOf_7 rfl rfl ?_
  refine g_getR 11 (a0 + 2) dX9_degreeOf_8 rfl flX9_28 s0.1 s0.2.2.2.1 ?_
  refine g_iconst (0) 12 dX9_degreeOf_11 rfl rfl ?_
  refine h_iaload 13 0 dX9_degreeOf_12 rfl rfl s0.2.2.2.2.1 (vp_lit rfl) ?_
  refine g_icmp_ge 51 16 dX9_degreeOf_13 rfl rfl (fun c1 => ?_) (fun c1 => ?_)
  · skip
    refine g_iload_n 3 52 dX9_degreeOf_51 rfl rfl ?_
    exact g_iret dX9_degreeOf_52 rfl (w2) (w3) (h1 c1)
  · skip
    refine g_iload_n 3 17 dX9_degreeOf_16 rfl rfl ?_
    refine g_aload_n 0 18 dX9_degreeOf_17 rfl rfl ?_
    refine g_iload 4 20 dX9_degreeOf_18 rfl rfl ?_
    refine g_callV (mc1 := 0) (ms1 := 0) (b := a0) (rest := [.int (x3)]) (av := [.int (x4)]) kX9_keyAt 23 dX9_degreeOf_20 rfl rfl mbX9_109 imX9_keyAt seX9_keyAt gcl9.1 s0.1 (Nat.le_of_ble_eq_true rfl) (w2) (w3) (tX9_keyAt s0 (b4 c1) ?_)
    show Go X (d + 2) mc ms kX9_degreeOf Q 23 [(0, .ref a0), (1, .int (x1)), (2, .int (x2)), (3, .int (x3)), (4, .int (x4))] [.int ((fX9_keyAt M a0 x4)), .int (x3)] M c z
    refine g_iload_n 1 24 dX9_degreeOf_23 rfl rfl ?_
    refine g_iload_n 2 25 dX9_degreeOf_24 rfl rfl ?_
    refine g_aload_n 0 26 dX9_degreeOf_25 rfl rfl ?_
    refine g_getR 29 (a0 + 2) dX9_degreeOf_26 rfl flX9_28 s0.1 s0.2.2.2.1 ?_
    refine g_bipush (31) 31 dX9_degreeOf_29 rfl rfl ?_
    refine h_iaload 32 31 dX9_degreeOf_31 rfl rfl s0.2.2.2.2.1 (vp_lit rfl) ?_
    refine g_callS (mc1 := 0) (ms1 := 0) (rest := [.int (x3)]) (av := [.int ((fX9_keyAt M a0 x4)), .int (x1), .int (x2), .int ((g_mi M (a0 + 2) 31))]) kX9_hasVertex 35 dX9_degreeOf_32 rfl rfl mbX9_119 smX9_hasVertex (Nat.le_of_ble_eq_true rfl) (w2) (w3) (tX9_hasVertex (N := N) (b5 c1) ?_)
    show Go X (d + 2) mc ms kX9_degreeOf Q 35 [(0, .ref a0), (1, .int (x1)), (2, .int (x2)), (3, .int (x3)), (4, .int (x4))] [.int ((fX9_hasVertex N M (fX9_keyAt M a0 x4) x1 x2 (g_mi M (a0 + 2) 31))), .int (x3)] M c z
    refine g_if_eq 42 38 dX9_degreeOf_35 rfl rfl (fun c2 => ?_) (fun c2 => ?_)
    · skip
      refine g_iconst (0) 43 dX9_degreeOf_42 rfl rfl ?_
      refine g_iadd 44 dX9_degreeOf_43 rfl ?_
      refine g_istore_n 45 [(3, .int ((x3 + 0))), (0, .ref a0), (1, .int (x1)), (2, .int (x2)), (4, .int (x4))] dX9_degreeOf_44 rfl (Nat.le_of_ble_eq_true rfl) rfl ?_
      refine g_iinc _ 4 48 [(4, .int ((x4 + 1))), (3, .int ((x3 + 0))), (0, .ref a0), (1, .int (x1)), (2, .int (x2))] dX9_degreeOf_45 rfl rfl rfl (Nat.le_of_ble_eq_true rfl) rfl ?_
      refine g_goto 5 dX9_degreeOf_48 rfl ?_
      exact g_sub [2, 3, 4, 1, 0] _ rfl (h6 c1 c2)
    · skip
      refine g_iconst (1) 39 dX9_degreeOf_38 rfl rfl ?_
      refine g_goto 43 dX9_degreeOf_39 rfl ?_
      refine g_iadd 44 dX9_degreeOf_43 rfl ?_
      refine g_istore_n 45 [(3, .int ((x3 + 1))), (0, .ref a0), (1, .int (x1)), (2, .int (x2)), (4, .int (x4))] dX9_degreeOf_44 rfl (Nat.le_of_ble_eq_true rfl) rfl ?_
      refine g_iinc _ 4 48 [(4, .int ((x4 + 1))), (3, .int ((x3 + 1))), (0, .ref a0), (1, .int (x1)), (2, .int (x2))] dX9_degreeOf_45 rfl rfl rfl (Nat.le_of_ble_eq_true rfl) rfl ?_
      refine g_goto 5 dX9_degreeOf_48 rfl ?_
      exact g_sub [2, 3, 4, 1, 0] _ rfl (h7 c1 c2)

def bX9_degreeOf_0 (N : Nat) (M : gM) (a0 : Nat) (x1 : Int32) (x2 : Int32) (k : Nat → Nat → Int32 → Int32 → Int32 → Int32 → Int32) : Int32 := (k 0 a0 x1 x2 0 0)
def eX9_degreeOf_0 (N : Nat) (M : gM) (a0 : Nat) (x1 : Int32) (x2 : Int32) (k : Nat → Nat → Int32 → Int32 → Int32 → Int32 → Prop) : Prop := (k 0 a0 x1 x2 0 0)
def bX9_degreeOf_5 (N : Nat) (M : gM) (a0 : Nat) (x1 : Int32) (x2 : Int32) (x3 : Int32) (x4 : Int32) (k : Nat → Nat → Int32 → Int32 → Int32 → Int32 → Int32) : Int32 := (if (g_mi M (a0 + 2) 0) ≤ x4 then x3 else (if (fX9_hasVertex N M (fX9_keyAt M a0 x4) x1 x2 (g_mi M (a0 + 2) 31)) = 0 then (k 0 a0 x1 x2 (x3 + 0) (x4 + 1)) else (k 0 a0 x1 x2 (x3 + 1) (x4 + 1))))
def eX9_degreeOf_5 (N : Nat) (M : gM) (a0 : Nat) (x1 : Int32) (x2 : Int32) (x3 : Int32) (x4 : Int32) (k : Nat → Nat → Int32 → Int32 → Int32 → Int32 → Prop) : Prop := ((¬ (g_mi M (a0 + 2) 0) ≤ x4) → EX9_keyAt M a0 x4) ∧ ((¬ (g_mi M (a0 + 2) 0) ≤ x4) → EX9_hasVertex N M (fX9_keyAt M a0 x4) x1 x2 (g_mi M (a0 + 2) 31)) ∧ (if (g_mi M (a0 + 2) 0) ≤ x4 then True else (if (fX9_hasVertex N M (fX9_keyAt M a0 x4) x1 x2 (g_mi M (a0 + 2) 31)) = 0 then (k 0 a0 x1 x2 (x3 + 0) (x4 + 1)) else (k 0 a0 x1 x2 (x3 + 1) (x4 + 1))))
def wX9_degreeOf (N : Nat) (M : gM) : Nat → Nat → Nat → Int32 → Int32 → Int32 → Int32 → Int32
  | 0, _, _, _, _, _, _ => 0
  | n + 1, h, a0, x1, x2, x3, x4 => bX9_degreeOf_5 N M a0 x1 x2 x3 x4 (wX9_degreeOf N M n)
def vX9_degreeOf (N : Nat) (M : gM) : Nat → Nat → Nat → Int32 → Int32 → Int32 → Int32 → Prop
  | 0, _, _, _, _, _, _ => False
  | n + 1, h, a0, x1, x2, x3, x4 => eX9_degreeOf_5 N M a0 x1 x2 x3 x4 (vX9_degreeOf N M n)
set_option maxRecDepth 10000 in
theorem lpX9_degreeOf {X : gX} {d mc ms : Nat} {Q : Option Value → gM → Prop} (N : Nat) (M : gM) : ∀ n : Nat, (∀ (a0 : Nat) (x1 : Int32) (x2 : Int32) (x3 : Int32) (x4 : Int32), Mo M a0 → vX9_degreeOf N M n 0 a0 x1 x2 x3 x4 → Q (some (.int (wX9_degreeOf N M n 0 a0 x1 x2 x3 x4))) M → Go X (d + 2) mc ms kX9_degreeOf Q 5 [(0, .ref a0), (1, .int (x1)), (2, .int (x2)), (3, .int (x3)), (4, .int (x4))] [] M 0 0) := by
  intro n
  induction n with
  | zero => exact fun _ _ _ _ _ _ h _ => h.elim
  | succ n ih =>
    intro a0 x1 x2 x3 x4 s0 hT hQ
    rw [vX9_degreeOf] at hT
    rw [wX9_degreeOf] at hQ
    unfold bX9_degreeOf_5 at hQ
    unfold eX9_degreeOf_5 at hT
    obtain ⟨b4, b5, hT⟩ := hT
    exact sX9_degreeOf_5 (M := M) s0 (fun c1 => by simp only [if_pos c1] at hQ; exact hQ) (Nat.zero_le _) (Nat.zero_le _) b4 b5 (fun c1 c2 => by simp only [if_neg c1, if_pos c2] at hQ hT; exact ih _ _ _ _ _ (s0) hT hQ) (fun c1 c2 => by simp only [if_neg c1, if_neg c2] at hQ hT; exact ih _ _ _ _ _ (s0) hT hQ)
def fX9_degreeOf (N : Nat) (M : gM) (a0 : Nat) (x1 : Int32) (x2 : Int32) : Int32 := (bX9_degreeOf_0 N M a0 x1 x2 (wX9_degreeOf N M N))
def EX9_degreeOf (N : Nat) (M : gM) (a0 : Nat) (x1 : Int32) (x2 : Int32) : Prop := eX9_degreeOf_0 N M a0 x1 x2 (vX9_degreeOf N M N)
theorem tX9_degreeOf {N : Nat} {X : gX} {d mc ms : Nat} {Q : Option Value → gM → Prop} {M : gM} {a0 : Nat} {x1 : Int32} {x2 : Int32} (s0 : Mo M a0) (hE : EX9_degreeOf N M a0 x1 x2) (hQ : Q (some (.int (fX9_degreeOf N M a0 x1 x2))) M) : Cn X (d + 2) mc ms kX9_degreeOf [.ref a0, .int (x1), .int (x2)] M Q := by
  unfold fX9_degreeOf at hQ
  unfold bX9_degreeOf_0 at hQ
  unfold EX9_degreeOf eX9_degreeOf_0 at hE
  have hT := hE
  have ih := lpX9_degreeOf (X := X) (d := d) (mc := mc) (ms := ms) (Q := Q) N M N
  exact sX9_degreeOf_0 s0 (ih _ _ _ _ _ (s0) hT hQ)
/-! X9_feed  -/
set_option maxRecDepth 4000 in
theorem sX9_feed_0 {X : gX} {d mc ms : Nat} {Q : Option Value → gM → Prop} {M : gM} {a0 : Nat} {x1 : Int32} {x2 : Int32} {x3 : Int32} {x4 : Int32} {x5 : Int32} (s0 : Mo M a0) (h1 : (((g_mi M a0 13) + 20) ≤ 400) → Go X d mc ms kX9_feed Q 55 [(0, .ref a0), (6, .int (0))] [] (g_wi (g_wi (g_wi (g_wi (g_wi M (a0 + 8) 0 x1) (a0 + 8) 1 x2) (a0 + 8) 2 x3) (a0 + 8) 3 x4) (a0 + 8) 4 x5) 0 0) (h2 : (¬ ((g_mi M a0 13) + 20) ≤ 400) → Q (some (.int ((-1)))) M) : Cn X d mc ms kX9_feed [.ref a0, .int (x1), .int (x2), .int (x3), .int (x4), .int (x5)] M Q := by
  refine g_meth rfl rfl (Nat.le_of_ble_eq_true rfl) rfl ?_
  refine g_aload_n 0 1 dX9_feed_0 rfl rfl ?_
  refine g_getI 4 dX9_feed_1 rfl flX9_157 s0.1 ?_
  refine g_bipush (20) 6 dX9_feed_4 rfl rfl ?_
  refine g_iadd 7 dX9_feed_6 rfl ?_
  refine g_sipush (400) 10 dX9_feed_7 rfl rfl ?_
  refine g_icmp_le 15 13 dX9_feed_10 rfl rfl (fun c1 => ?_) (fun c1 => ?_)
  · skip
    refine g_aload_n 0 16 dX9_feed_15 rfl rfl ?_
    refine g_getR 19 (a0 + 8) dX9_feed_16 rfl flX9_48 s0.1 s0.2.2.2.2.2.2.2.2.2.2.2.2.2.2.2.1 ?_
    refine g_iconst (0) 20 dX9_feed_19 rfl rfl ?_
    refine g_iload_n 1 21 dX9_feed_20 rfl rfl ?_
    refine h_iastore 22 0 dX9_feed_21 rfl rfl s0.2.2.2.2.2.2.2.2.2.2.2.2.2.2.2.2.1 (vp_lit rfl) ?_
    refine g_aload_n 0 23 dX9_feed_22 rfl rfl ?_
    refine g_getR 26 (a0 + 8) dX9_feed_23 rfl flX9_48 (Sm.k (Sm.wi Sm.rf) s0.1) (Sm.r (Sm.wi Sm.rf) s0.2.2.2.2.2.2.2.2.2.2.2.2.2.2.2.1) ?_
    refine g_iconst (1) 27 dX9_feed_26 rfl rfl ?_
    refine g_iload_n 2 28 dX9_feed_27 rfl rfl ?_
    refine h_iastore 29 1 dX9_feed_28 rfl rfl (Sm.k (Sm.wi Sm.rf) s0.2.2.2.2.2.2.2.2.2.2.2.2.2.2.2.2.1) (vp_lit rfl) ?_
    refine g_aload_n 0 30 dX9_feed_29 rfl rfl ?_
    refine g_getR 33 (a0 + 8) dX9_feed_30 rfl flX9_48 (Sm.k (Sm.wi (Sm.wi Sm.rf)) s0.1) (Sm.r (Sm.wi (Sm.wi Sm.rf)) s0.2.2.2.2.2.2.2.2.2.2.2.2.2.2.2.1) ?_
    refine g_iconst (2) 34 dX9_feed_33 rfl rfl ?_
    refine g_iload_n 3 35 dX9_feed_34 rfl rfl ?_
    refine h_iastore 36 2 dX9_feed_35 rfl rfl (Sm.k (Sm.wi (Sm.wi Sm.rf)) s0.2.2.2.2.2.2.2.2.2.2.2.2.2.2.2.2.1) (vp_lit rfl) ?_
    refine g_aload_n 0 37 dX9_feed_36 rfl rfl ?_
    refine g_getR 40 (a0 + 8) dX9_feed_37 rfl flX9_48 (Sm.k (Sm.wi (Sm.wi (Sm.wi Sm.rf))) s0.1) (Sm.r (Sm.wi (Sm.wi (Sm.wi Sm.rf))) s0.2.2.2.2.2.2.2.2.2.2.2.2.2.2.2.1) ?_
    refine g_iconst (3) 41 dX9_feed_40 rfl rfl ?_
    refine g_iload 4 43 dX9_feed_41 rfl rfl ?_
    refine h_iastore 44 3 dX9_feed_43 rfl rfl (Sm.k (Sm.wi (Sm.wi (Sm.wi Sm.rf))) s0.2.2.2.2.2.2.2.2.2.2.2.2.2.2.2.2.1) (vp_lit rfl) ?_
    refine g_aload_n 0 45 dX9_feed_44 rfl rfl ?_
    refine g_getR 48 (a0 + 8) dX9_feed_45 rfl flX9_48 (Sm.k (Sm.wi (Sm.wi (Sm.wi (Sm.wi Sm.rf)))) s0.1) (Sm.r (Sm.wi (Sm.wi (Sm.wi (Sm.wi Sm.rf)))) s0.2.2.2.2.2.2.2.2.2.2.2.2.2.2.2.1) ?_
    refine g_iconst (4) 49 dX9_feed_48 rfl rfl ?_
    refine g_iload 5 51 dX9_feed_49 rfl rfl ?_
    refine h_iastore 52 4 dX9_feed_51 rfl rfl (Sm.k (Sm.wi (Sm.wi (Sm.wi (Sm.wi Sm.rf)))) s0.2.2.2.2.2.2.2.2.2.2.2.2.2.2.2.2.1) (vp_lit rfl) ?_
    refine g_iconst (0) 53 dX9_feed_52 rfl rfl ?_
    refine g_istore 55 [(6, .int (0)), (0, .ref a0), (1, .int (x1)), (2, .int (x2)), (3, .int (x3)), (4, .int (x4)), (5, .int (x5))] dX9_feed_53 rfl (Nat.le_of_ble_eq_true rfl) rfl ?_
    exact g_sub [1, 0] _ rfl (h1 c1)
  · skip
    refine g_iconst ((-1)) 14 dX9_feed_13 rfl rfl ?_
    exact g_iret dX9_feed_14 rfl (Nat.zero_le _) (Nat.zero_le _) (h2 c1)

set_option maxRecDepth 4000 in
theorem sX9_feed_55 {X : gX} {d mc ms : Nat} {Q : Option Value → gM → Prop} {M : gM} {c z : Nat} {a0 : Nat} {x6 : Int32} (s0 : Mo M a0) (h1 : (20 ≤ x6) → Q (some (.int ((g_mi (g_wi M a0 13 ((g_mi M a0 13) + 20)) a0 13)))) (g_wi M a0 13 ((g_mi M a0 13) + 20))) (w2 : c ≤ mc) (w3 : z ≤ ms) (b4 : (¬ 20 ≤ x6) → vp_in ((x6 / 4)) 5) (b5 : (¬ 20 ≤ x6) → vp_in (((g_mi M a0 13) + x6)) 400) (b6 : (¬ 20 ≤ x6) → narrow .byte (.int (((((g_mi M (a0 + 8) ((x6 / 4)).toNatClampNeg) >>> ((24 - (8 * (i_rm x6 4))) &&& 31)) : Int32).toInt8.toInt32))) = .int (((((g_mi M (a0 + 8) ((x6 / 4)).toNatClampNeg) >>> ((24 - (8 * (i_rm x6 4))) &&& 31)) : Int32).toInt8.toInt32))) (h7 : (¬ 20 ≤ x6) → Go X d mc ms kX9_feed Q 55 [(0, .ref a0), (6, .int ((x6 + 1)))] [] (g_wi M (a0 + 7) (((g_mi M a0 13) + x6)).toNatClampNeg ((((g_mi M (a0 + 8) ((x6 / 4)).toNatClampNeg) >>> ((24 - (8 * (i_rm x6 4))) &&& 31)) : Int32).toInt8.toInt32)) c z) : Go X d mc ms kX9_feed Q 55 [(0, .ref a0), (6, .int (x6))] [] M c z := by
  refine g_iload 1 57 dX9_feed_55 rfl rfl ?_
  refine g_bipush (20) 59 dX9_feed_57 rfl rfl ?_
  refine g_icmp_ge 101 62 dX9_feed_59 rfl rfl (fun c1 => ?_) (fun c1 => ?_)
  · skip
    refine g_aload_n 0 102 dX9_feed_101 rfl rfl ?_
    refine g_dup 103 dX9_feed_102 rfl rfl ?_
    refine g_getI 106 dX9_feed_103 rfl flX9_157 s0.1 ?_
    refine g_bipush (20) 108 dX9_feed_106 rfl rfl ?_
    refine g_iadd 109 dX9_feed_108 rfl ?_
    refine g_putI 112 dX9_feed_109 rfl flX9_157 s0.1 ?_
    refine g_aload_n 0 113 dX9_feed_112 rfl rfl ?_
    refine g_getI 116 dX9_feed_113 rfl flX9_157 (Sm.k (Sm.wi Sm.rf) s0.1) ?_
    exact g_iret dX9_feed_116 rfl (w2) (w3) (h1 c1)
  · skip
    refine g_aload_n 0 63 dX9_feed_62 rfl rfl ?_
    refine g_getR 66 (a0 + 7) dX9_feed_63 rfl flX9_45 s0.1 s0.2.2.2.2.2.2.2.2.2.2.2.2.2.1 ?_
    refine g_aload_n 0 67 dX9_feed_66 rfl rfl ?_
    refine g_getI 70 dX9_feed_67 rfl flX9_157 s0.1 ?_
    refine g_iload 1 72 dX9_feed_70 rfl rfl ?_
    refine g_iadd 73 dX9_feed_72 rfl ?_
    refine g_aload_n 0 74 dX9_feed_73 rfl rfl ?_
    refine g_getR 77 (a0 + 8) dX9_feed_74 rfl flX9_48 s0.1 s0.2.2.2.2.2.2.2.2.2.2.2.2.2.2.2.1 ?_
    refine g_iload 1 79 dX9_feed_77 rfl rfl ?_
    refine g_iconst (4) 80 dX9_feed_79 rfl rfl ?_
    refine g_idiv 81 dX9_feed_80 rfl (by decide) ?_
    refine h_iaload 82 ((x6 / 4)).toNatClampNeg dX9_feed_81 rfl rfl s0.2.2.2.2.2.2.2.2.2.2.2.2.2.2.2.2.1 (b4 c1) ?_
    refine g_bipush (24) 84 dX9_feed_82 rfl rfl ?_
    refine g_bipush (8) 86 dX9_feed_84 rfl rfl ?_
    refine g_iload 1 88 dX9_feed_86 rfl rfl ?_
    refine g_iconst (4) 89 dX9_feed_88 rfl rfl ?_
    refine h_irem 90 dX9_feed_89 rfl (by decide) ?_
    refine g_imul 91 dX9_feed_90 rfl ?_
    refine g_isub 92 dX9_feed_91 rfl ?_
    refine g_ishr 93 dX9_feed_92 rfl ?_
    refine g_i2b 94 dX9_feed_93 rfl ?_
    refine h_bastore 95 (((g_mi M a0 13) + x6)).toNatClampNeg dX9_feed_94 rfl rfl s0.2.2.2.2.2.2.2.2.2.2.2.2.2.2.1 (b5 c1) (b6 c1) ?_
    refine g_iinc _ 1 98 [(6, .int ((x6 + 1))), (0, .ref a0)] dX9_feed_95 rfl rfl rfl (Nat.le_of_ble_eq_true rfl) rfl ?_
    refine g_goto 55 dX9_feed_98 rfl ?_
    exact g_sub [1, 0] _ rfl (h7 c1)

def bX9_feed_0 (N : Nat) (M : gM) (a0 : Nat) (x1 : Int32) (x2 : Int32) (x3 : Int32) (x4 : Int32) (x5 : Int32) (k : Nat → (Nat → Nat → Int32) → Nat → Int32 → Int32 × (Nat → Nat → Int32)) : Int32 × (Nat → Nat → Int32) := (if ((g_mi M a0 13) + 20) ≤ 400 then (k 0 (g_mi (g_wi (g_wi (g_wi (g_wi (g_wi M (a0 + 8) 0 x1) (a0 + 8) 1 x2) (a0 + 8) 2 x3) (a0 + 8) 3 x4) (a0 + 8) 4 x5)) a0 0) else ((-1), g_mi M))
def eX9_feed_0 (N : Nat) (M : gM) (a0 : Nat) (x1 : Int32) (x2 : Int32) (x3 : Int32) (x4 : Int32) (x5 : Int32) (k : Nat → (Nat → Nat → Int32) → Nat → Int32 → Prop) : Prop := (if ((g_mi M a0 13) + 20) ≤ 400 then (k 0 (g_mi (g_wi (g_wi (g_wi (g_wi (g_wi M (a0 + 8) 0 x1) (a0 + 8) 1 x2) (a0 + 8) 2 x3) (a0 + 8) 3 x4) (a0 + 8) 4 x5)) a0 0) else True)
def bX9_feed_55 (N : Nat) (M : gM) (f : Nat → Nat → Int32) (a0 : Nat) (x6 : Int32) (k : Nat → (Nat → Nat → Int32) → Nat → Int32 → Int32 × (Nat → Nat → Int32)) : Int32 × (Nat → Nat → Int32) := (if 20 ≤ x6 then ((g_mi (g_wi (g_wm M f (g_ml M)) a0 13 ((g_mi (g_wm M f (g_ml M)) a0 13) + 20)) a0 13), g_mi (g_wi (g_wm M f (g_ml M)) a0 13 ((g_mi (g_wm M f (g_ml M)) a0 13) + 20))) else (k 0 (g_mi (g_wi (g_wm M f (g_ml M)) (a0 + 7) (((g_mi (g_wm M f (g_ml M)) a0 13) + x6)).toNatClampNeg ((((g_mi (g_wm M f (g_ml M)) (a0 + 8) ((x6 / 4)).toNatClampNeg) >>> ((24 - (8 * (i_rm x6 4))) &&& 31)) : Int32).toInt8.toInt32))) a0 (x6 + 1)))
def eX9_feed_55 (N : Nat) (M : gM) (f : Nat → Nat → Int32) (a0 : Nat) (x6 : Int32) (k : Nat → (Nat → Nat → Int32) → Nat → Int32 → Prop) : Prop := ((¬ 20 ≤ x6) → vp_in ((x6 / 4)) 5) ∧ ((¬ 20 ≤ x6) → vp_in (((g_mi (g_wm M f (g_ml M)) a0 13) + x6)) 400) ∧ ((¬ 20 ≤ x6) → narrow .byte (.int (((((g_mi (g_wm M f (g_ml M)) (a0 + 8) ((x6 / 4)).toNatClampNeg) >>> ((24 - (8 * (i_rm x6 4))) &&& 31)) : Int32).toInt8.toInt32))) = .int (((((g_mi (g_wm M f (g_ml M)) (a0 + 8) ((x6 / 4)).toNatClampNeg) >>> ((24 - (8 * (i_rm x6 4))) &&& 31)) : Int32).toInt8.toInt32))) ∧ (if 20 ≤ x6 then True else (k 0 (g_mi (g_wi (g_wm M f (g_ml M)) (a0 + 7) (((g_mi (g_wm M f (g_ml M)) a0 13) + x6)).toNatClampNeg ((((g_mi (g_wm M f (g_ml M)) (a0 + 8) ((x6 / 4)).toNatClampNeg) >>> ((24 - (8 * (i_rm x6 4))) &&& 31)) : Int32).toInt8.toInt32))) a0 (x6 + 1)))
def wX9_feed (N : Nat) (M : gM) : Nat → Nat → (Nat → Nat → Int32) → Nat → Int32 → Int32 × (Nat → Nat → Int32)
  | 0, _, f, _, _ => (0, f)
  | n + 1, h, f, a0, x6 => bX9_feed_55 N M f a0 x6 (wX9_feed N M n)
def vX9_feed (N : Nat) (M : gM) : Nat → Nat → (Nat → Nat → Int32) → Nat → Int32 → Prop
  | 0, _, _, _, _ => False
  | n + 1, h, f, a0, x6 => eX9_feed_55 N M f a0 x6 (vX9_feed N M n)
set_option maxRecDepth 10000 in
theorem lpX9_feed {X : gX} {d mc ms : Nat} {Q : Option Value → gM → Prop} (N : Nat) (M : gM) : ∀ n : Nat, (∀ (f : Nat → Nat → Int32) (a0 : Nat) (x6 : Int32), Mo M a0 → vX9_feed N M n 0 f a0 x6 → Q (some (.int (wX9_feed N M n 0 f a0 x6).1)) (g_wm M (wX9_feed N M n 0 f a0 x6).2 (g_ml M)) → Go X d mc ms kX9_feed Q 55 [(0, .ref a0), (6, .int (x6))] [] (g_wm M f (g_ml M)) 0 0) := by
  intro n
  induction n with
  | zero => exact fun _ _ _ _ h _ => h.elim
  | succ n ih =>
    intro f a0 x6 s0 hT hQ
    rw [vX9_feed] at hT
    rw [wX9_feed] at hQ
    unfold bX9_feed_55 at hQ
    unfold eX9_feed_55 at hT
    obtain ⟨b4, b5, b6, hT⟩ := hT
    exact sX9_feed_55 (M := (g_wm M f (g_ml M))) (Mo.sm Sm.wm s0) (fun c1 => by simp only [if_pos c1] at hQ; exact Sm.q (Sm.tr Sm.wm (Sm.wi Sm.rf)) hQ) (Nat.zero_le _) (Nat.zero_le _) b4 b5 b6 (fun c1 => by simp only [if_neg c1] at hQ hT; exact Sm.g (Sm.tr Sm.wm (Sm.wi Sm.rf)) (ih _ _ _ (s0) hT hQ))
def fX9_feed (N : Nat) (M : gM) (a0 : Nat) (x1 : Int32) (x2 : Int32) (x3 : Int32) (x4 : Int32) (x5 : Int32) : Int32 := (bX9_feed_0 N M a0 x1 x2 x3 x4 x5 (wX9_feed N M N)).1
def mX9_feed (N : Nat) (M : gM) (a0 : Nat) (x1 : Int32) (x2 : Int32) (x3 : Int32) (x4 : Int32) (x5 : Int32) : gM := g_wm M (bX9_feed_0 N M a0 x1 x2 x3 x4 x5 (wX9_feed N M N)).2 (g_ml M)
theorem jX9_feed {N : Nat} {M : gM} {a0 : Nat} {x1 : Int32} {x2 : Int32} {x3 : Int32} {x4 : Int32} {x5 : Int32} : Sm M (mX9_feed N M a0 x1 x2 x3 x4 x5) := Sm.wm
def EX9_feed (N : Nat) (M : gM) (a0 : Nat) (x1 : Int32) (x2 : Int32) (x3 : Int32) (x4 : Int32) (x5 : Int32) : Prop := eX9_feed_0 N M a0 x1 x2 x3 x4 x5 (vX9_feed N M N)
theorem tX9_feed {N : Nat} {X : gX} {d mc ms : Nat} {Q : Option Value → gM → Prop} {M : gM} {a0 : Nat} {x1 : Int32} {x2 : Int32} {x3 : Int32} {x4 : Int32} {x5 : Int32} (s0 : Mo M a0) (hE : EX9_feed N M a0 x1 x2 x3 x4 x5) (hQ : Q (some (.int (fX9_feed N M a0 x1 x2 x3 x4 x5))) (mX9_feed N M a0 x1 x2 x3 x4 x5)) : Cn X d mc ms kX9_feed [.ref a0, .int (x1), .int (x2), .int (x3), .int (x4), .int (x5)] M Q := by
  unfold fX9_feed mX9_feed at hQ
  unfold bX9_feed_0 at hQ
  unfold EX9_feed eX9_feed_0 at hE
  have hT := hE
  have ih := lpX9_feed (X := X) (d := d) (mc := mc) (ms := ms) (Q := Q) N M N
  exact sX9_feed_0 s0 (fun c1 => by simp only [if_pos c1] at hQ hT; exact Sm.g (Sm.wi (Sm.wi (Sm.wi (Sm.wi (Sm.wi Sm.rf))))) (ih _ _ _ (s0) hT hQ)) (fun c1 => by simp only [if_neg c1] at hQ; exact Sm.q Sm.rf hQ)
/-! X9_wordOf  -/
set_option maxRecDepth 4000 in
theorem sX9_wordOf_0 {X : gX} {d mc ms : Nat} {Q : Option Value → gM → Prop} {M : gM} {a0 : Nat} {x1 : Int32} {x2 : Int32} (s0 : Mo M a0) (h1 : Go X d mc ms kX9_wordOf Q 5 [(0, .ref a0), (1, .int (x1)), (2, .int (x2)), (3, .int (1)), (4, .int (0))] [] M 0 0) : Cn X d mc ms kX9_wordOf [.ref a0, .int (x1), .int (x2)] M Q := by
  refine g_meth rfl rfl (Nat.le_of_ble_eq_true rfl) rfl ?_
  refine g_iconst (1) 1 dX9_wordOf_0 rfl rfl ?_
  refine g_istore_n 2 [(3, .int (1)), (0, .ref a0), (1, .int (x1)), (2, .int (x2))] dX9_wordOf_1 rfl (Nat.le_of_ble_eq_true rfl) rfl ?_
  refine g_iconst (0) 3 dX9_wordOf_2 rfl rfl ?_
  refine g_istore 5 [(4, .int (0)), (3, .int (1)), (0, .ref a0), (1, .int (x1)), (2, .int (x2))] dX9_wordOf_3 rfl (Nat.le_of_ble_eq_true rfl) rfl ?_
  exact g_sub [2, 3, 4, 1, 0] _ rfl (h1)

set_option maxRecDepth 4000 in
theorem sX9_wordOf_5 {X : gX} {d mc ms : Nat} {Q : Option Value → gM → Prop} {M : gM} {c z : Nat} {a0 : Nat} {x1 : Int32} {x2 : Int32} {x3 : Int32} {x4 : Int32} (s0 : Mo M a0) (h1 : (113 ≤ x4) → Q (some (.int (0))) M) (w2 : c ≤ mc) (w3 : z ≤ ms) (h4 : (¬ 113 ≤ x4) → Go X d mc ms kX9_wordOf Q 18 [(0, .ref a0), (1, .int (x1)), (2, .int (x2)), (3, .int (x3)), (4, .int (x4)), (5, .int (0))] [] M c z) : Go X d mc ms kX9_wordOf Q 5 [(0, .ref a0), (1, .int (x1)), (2, .int (x2)), (3, .int (x3)), (4, .int (x4))] [] M c z := by
  refine g_iload 4 7 dX9_wordOf_5 rfl rfl ?_
  refine g_aload_n 0 8 dX9_wordOf_7 rfl rfl ?_
  refine g_getR 11 (a0 + 6) dX9_wordOf_8 rfl flX9_41 s0.1 s0.2.2.2.2.2.2.2.2.2.2.2.1 ?_
  refine g_alen (t := 1) 12 dX9_wordOf_11 rfl s0.2.2.2.2.2.2.2.2.2.2.2.2.1 (by decide) rfl ?_
  refine g_icmp_ge 126 15 dX9_wordOf_12 rfl rfl (fun c1 => ?_) (fun c1 => ?_)
  · skip
    refine g_iconst (0) 127 dX9_wordOf_126 rfl rfl ?_
    exact g_iret dX9_wordOf_127 rfl (w2) (w3) (h1 c1)
  · skip
    refine g_iconst (0) 16 dX9_wordOf_15 rfl rfl ?_
    refine g_istore 18 [(5, .int (0)), (0, .ref a0), (1, .int (x1)), (2, .int (x2)), (3, .int (x3)), (4, .int (x4))] dX9_wordOf_16 rfl (Nat.le_of_ble_eq_true rfl) rfl ?_
    exact g_sub [1, 2, 3, 4, 5, 0] _ rfl (h4 c1)

set_option maxRecDepth 4000 in
theorem sX9_wordOf_18 {X : gX} {d mc ms : Nat} {Q : Option Value → gM → Prop} {M : gM} {c z : Nat} {a0 : Nat} {x1 : Int32} {x2 : Int32} {x3 : Int32} {x4 : Int32} {x5 : Int32} (s0 : Mo M a0) (b1 : vp_in ((x4 + x5)) 113) (h2 : ((g_mi M (a0 + 6) ((x4 + x5)).toNatClampNeg) = 32) → (¬ x5 = (x2 - x1)) → Go X d mc ms kX9_wordOf Q 57 [(0, .ref a0), (1, .int (x1)), (2, .int (x2)), (3, .int (x3)), (4, .int (x4)), (5, .int (x5)), (6, .int (0)), (7, .int (0))] [] M c z) (h3 : ((g_mi M (a0 + 6) ((x4 + x5)).toNatClampNeg) = 32) → (x5 = (x2 - x1)) → Go X d mc ms kX9_wordOf Q 57 [(0, .ref a0), (1, .int (x1)), (2, .int (x2)), (3, .int (x3)), (4, .int (x4)), (5, .int (x5)), (6, .int (1)), (7, .int (0))] [] M c z) (h4 : (¬ (g_mi M (a0 + 6) ((x4 + x5)).toNatClampNeg) = 32) → Go X d mc ms kX9_wordOf Q 18 [(0, .ref a0), (1, .int (x1)), (2, .int (x2)), (3, .int (x3)), (4, .int (x4)), (5, .int ((x5 + 1)))] [] M c z) : Go X d mc ms kX9_wordOf Q 18 [(0, .ref a0), (1, .int (x1)), (2, .int (x2)), (3, .int (x3)), (4, .int (x4)), (5, .int (x5))] [] M c z := by
  refine g_aload_n 0 19 dX9_wordOf_18 rfl rfl ?_
  refine g_getR 22 (a0 + 6) dX9_wordOf_19 rfl flX9_41 s0.1 s0.2.2.2.2.2.2.2.2.2.2.2.1 ?_
  refine g_iload 4 24 dX9_wordOf_22 rfl rfl ?_
  refine g_iload 5 26 dX9_wordOf_24 rfl rfl ?_
  refine g_iadd 27 dX9_wordOf_26 rfl ?_
  refine h_baload 28 ((x4 + x5)).toNatClampNeg dX9_wordOf_27 rfl rfl s0.2.2.2.2.2.2.2.2.2.2.2.2.1 (b1) ?_
  refine g_bipush (32) 30 dX9_wordOf_28 rfl rfl ?_
  refine g_icmp_eq 39 33 dX9_wordOf_30 rfl rfl (fun c1 => ?_) (fun c1 => ?_)
  · skip
    refine g_iload 5 41 dX9_wordOf_39 rfl rfl ?_
    refine g_iload_n 2 42 dX9_wordOf_41 rfl rfl ?_
    refine g_iload_n 1 43 dX9_wordOf_42 rfl rfl ?_
    refine g_isub 44 dX9_wordOf_43 rfl ?_
    refine g_icmp_ne 51 47 dX9_wordOf_44 rfl rfl (fun c2 => ?_) (fun c2 => ?_)
    · skip
      refine g_iconst (0) 52 dX9_wordOf_51 rfl rfl ?_
      refine g_istore 54 [(6, .int (0)), (0, .ref a0), (1, .int (x1)), (2, .int (x2)), (3, .int (x3)), (4, .int (x4)), (5, .int (x5))] dX9_wordOf_52 rfl (Nat.le_of_ble_eq_true rfl) rfl ?_
      refine g_iconst (0) 55 dX9_wordOf_54 rfl rfl ?_
      refine g_istore 57 [(7, .int (0)), (6, .int (0)), (0, .ref a0), (1, .int (x1)), (2, .int (x2)), (3, .int (x3)), (4, .int (x4)), (5, .int (x5))] dX9_wordOf_55 rfl (Nat.le_of_ble_eq_true rfl) rfl ?_
      exact g_sub [2, 3, 4, 5, 6, 7, 1, 0] _ rfl (h2 c1 c2)
    · skip
      refine g_iconst (1) 48 dX9_wordOf_47 rfl rfl ?_
      refine g_goto 52 dX9_wordOf_48 rfl ?_
      refine g_istore 54 [(6, .int (1)), (0, .ref a0), (1, .int (x1)), (2, .int (x2)), (3, .int (x3)), (4, .int (x4)), (5, .int (x5))] dX9_wordOf_52 rfl (Nat.le_of_ble_eq_true rfl) rfl ?_
      refine g_iconst (0) 55 dX9_wordOf_54 rfl rfl ?_
      refine g_istore 57 [(7, .int (0)), (6, .int (1)), (0, .ref a0), (1, .int (x1)), (2, .int (x2)), (3, .int (x3)), (4, .int (x4)), (5, .int (x5))] dX9_wordOf_55 rfl (Nat.le_of_ble_eq_true rfl) rfl ?_
      exact g_sub [2, 3, 4, 5, 6, 7, 1, 0] _ rfl (h3 c1 c2)
  · skip
    refine g_iinc _ 5 36 [(5, .int ((x5 + 1))), (0, .ref a0), (1, .int (x1)), (2, .int (x2)), (3, .int (x3)), (4, .int (x4))] dX9_wordOf_33 rfl rfl rfl (Nat.le_of_ble_eq_true rfl) rfl ?_
    refine g_goto 18 dX9_wordOf_36 rfl ?_
    exact g_sub [1, 2, 3, 4, 5, 0] _ rfl (h4 c1)

set_option maxRecDepth 4000 in
theorem sX9_wordOf_57 {X : gX} {d mc ms : Nat} {Q : Option Value → gM → Prop} {M : gM} {c z : Nat} {a0 : Nat} {x1 : Int32} {x2 : Int32} {x3 : Int32} {x4 : Int32} {x5 : Int32} {x6 : Int32} {x7 : Int32} (s0 : Mo M a0) (h1 : (x5 ≤ x7) → (x6 = 0) → Go X d mc ms kX9_wordOf Q 5 [(0, .ref a0), (1, .int (x1)), (2, .int (x2)), (3, .int ((x3 + 1))), (4, .int ((x4 + (x5 + 1))))] [] M c z) (h2 : (x5 ≤ x7) → (¬ x6 = 0) → Q (some (.int (x3))) M) (w3 : c ≤ mc) (w4 : z ≤ ms) (h5 : (¬ x5 ≤ x7) → (x6 = 0) → Go X d mc ms kX9_wordOf Q 5 [(0, .ref a0), (1, .int (x1)), (2, .int (x2)), (3, .int ((x3 + 1))), (4, .int ((x4 + (x5 + 1))))] [] M c z) (b6 : (¬ x5 ≤ x7) → (¬ x6 = 0) → vp_in ((x4 + x7)) 113) (b7 : (¬ x5 ≤ x7) → (¬ x6 = 0) → vp_in ((x1 + x7)) 400) (h8 : (¬ x5 ≤ x7) → (¬ x6 = 0) → (¬ (g_mi M (a0 + 6) ((x4 + x7)).toNatClampNeg) = (g_mi M (a0 + 7) ((x1 + x7)).toNatClampNeg)) → Go X d mc ms kX9_wordOf Q 57 [(0, .ref a0), (1, .int (x1)), (2, .int (x2)), (3, .int (x3)), (4, .int (x4)), (5, .int (x5)), (6, .int (0)), (7, .int ((x7 + 1)))] [] M c z) (h9 : (¬ x5 ≤ x7) → (¬ x6 = 0) → ((g_mi M (a0 + 6) ((x4 + x7)).toNatClampNeg) = (g_mi M (a0 + 7) ((x1 + x7)).toNatClampNeg)) → Go X d mc ms kX9_wordOf Q 57 [(0, .ref a0), (1, .int (x1)), (2, .int (x2)), (3, .int (x3)), (4, .int (x4)), (5, .int (x5)), (6, .int (1)), (7, .int ((x7 + 1)))] [] M c z) : Go X d mc ms kX9_wordOf Q 57 [(0, .ref a0), (1, .int (x1)), (2, .int (x2)), (3, .int (x3)), (4, .int (x4)), (5, .int (x5)), (6, .int (x6)), (7, .int (x7))] [] M c z := by
  refine g_iload 7 59 dX9_wordOf_57 rfl rfl ?_
  refine g_iload 5 61 dX9_wordOf_59 rfl rfl ?_
  refine g_icmp_ge 104 64 dX9_wordOf_61 rfl rfl (fun c1 => ?_) (fun c1 => ?_)
  · skip
    refine g_iload 6 106 dX9_wordOf_104 rfl rfl ?_
    refine g_if_eq 111 109 dX9_wordOf_106 rfl rfl (fun c2 => ?_) (fun c2 => ?_)
    · skip
      refine g_iload 4 113 dX9_wordOf_111 rfl rfl ?_
      refine g_iload 5 115 dX9_wordOf_113 rfl rfl ?_
      refine g_iconst (1) 116 dX9_wordOf_115 rfl rfl ?_
      refine g_iadd 117 dX9_wordOf_116 rfl ?_
      refine g_iadd 118 dX9_wordOf_117 rfl ?_
      refine g_istore 120 [(4, .int ((x4 + (x5 + 1)))), (0, .ref a0), (1, .int (x1)), (2, .int (x2)), (3, .int (x3)), (5, .int (x5)), (6, .int (x6)), (7, .int (x7))] dX9_wordOf_118 rfl (Nat.le_of_ble_eq_true rfl) rfl ?_
      refine g_iinc _ 4 123 [(3, .int ((x3 + 1))), (4, .int ((x4 + (x5 + 1)))), (0, .ref a0), (1, .int (x1)), (2, .int (x2)), (5, .int (x5)), (6, .int (x6)), (7, .int (x7))] dX9_wordOf_120 rfl rfl rfl (Nat.le_of_ble_eq_true rfl) rfl ?_
      refine g_goto 5 dX9_wordOf_123 rfl ?_
      exact g_sub [2, 3, 4, 0, 1] _ rfl (h1 c1 c2)
    · skip
      refine g_iload_n 3 110 dX9_wordOf_109 rfl rfl ?_
      exact g_iret dX9_wordOf_110 rfl (w3) (w4) (h2 c1 c2)
  · skip
    refine g_iload 6 66 dX9_wordOf_64 rfl rfl ?_
    refine g_if_eq 104 69 dX9_wordOf_66 rfl rfl (fun c3 => ?_) (fun c3 => ?_)
    · skip
      refine g_iload 6 106 dX9_wordOf_104 rfl rfl ?_
      refine g_if_eq 111 109 dX9_wordOf_106 rfl rfl (fun _ => ?_) (fun q => absurd c3 q)
      refine g_iload 4 113 dX9_wordOf_111 rfl rfl ?_
      refine g_iload 5 115 dX9_wordOf_113 rfl rfl ?_
      refine g_iconst (1) 116 dX9_wordOf_115 rfl rfl ?_
      refine g_iadd 117 dX9_wordOf_116 rfl ?_
      refine g_iadd 118 dX9_wordOf_117 rfl ?_
      refine g_istore 120 [(4, .int ((x4 + (x5 + 1)))), (0, .ref a0), (1, .int (x1)), (2, .int (x2)), (3, .int (x3)), (5, .int (x5)), (6, .int (x6)), (7, .int (x7))] dX9_wordOf_118 rfl (Nat.le_of_ble_eq_true rfl) rfl ?_
      refine g_iinc _ 4 123 [(3, .int ((x3 + 1))), (4, .int ((x4 + (x5 + 1)))), (0, .ref a0), (1, .int (x1)), (2, .int (x2)), (5, .int (x5)), (6, .int (x6)), (7, .int (x7))] dX9_wordOf_120 rfl rfl rfl (Nat.le_of_ble_eq_true rfl) rfl ?_
      refine g_goto 5 dX9_wordOf_123 rfl ?_
      exact g_sub [2, 3, 4, 0, 1] _ rfl (h5 c1 c3)
    · skip
      refine g_aload_n 0 70 dX9_wordOf_69 rfl rfl ?_
      refine g_getR 73 (a0 + 6) dX9_wordOf_70 rfl flX9_41 s0.1 s0.2.2.2.2.2.2.2.2.2.2.2.1 ?_
      refine g_iload 4 75 dX9_wordOf_73 rfl rfl ?_
      refine g_iload 7 77 dX9_wordOf_75 rfl rfl ?_
      refine g_iadd 78 dX9_wordOf_77 rfl ?_
      refine h_baload 79 ((x4 + x7)).toNatClampNeg dX9_wordOf_78 rfl rfl s0.2.2.2.2.2.2.2.2.2.2.2.2.1 (b6 c1 c3) ?_
      refine g_aload_n 0 80 dX9_wordOf_79 rfl rfl ?_
      refine g_getR 83 (a0 + 7) dX9_wordOf_80 rfl flX9_45 s0.1 s0.2.2.2.2.2.2.2.2.2.2.2.2.2.1 ?_
      refine g_iload_n 1 84 dX9_wordOf_83 rfl rfl ?_
      refine g_iload 7 86 dX9_wordOf_84 rfl rfl ?_
      refine g_iadd 87 dX9_wordOf_86 rfl ?_
      refine h_baload 88 ((x1 + x7)).toNatClampNeg dX9_wordOf_87 rfl rfl s0.2.2.2.2.2.2.2.2.2.2.2.2.2.2.1 (b7 c1 c3) ?_
      refine g_icmp_ne 95 91 dX9_wordOf_88 rfl rfl (fun c4 => ?_) (fun c4 => ?_)
      · skip
        refine g_iconst (0) 96 dX9_wordOf_95 rfl rfl ?_
        refine g_istore 98 [(6, .int (0)), (0, .ref a0), (1, .int (x1)), (2, .int (x2)), (3, .int (x3)), (4, .int (x4)), (5, .int (x5)), (7, .int (x7))] dX9_wordOf_96 rfl (Nat.le_of_ble_eq_true rfl) rfl ?_
        refine g_iinc _ 7 101 [(7, .int ((x7 + 1))), (6, .int (0)), (0, .ref a0), (1, .int (x1)), (2, .int (x2)), (3, .int (x3)), (4, .int (x4)), (5, .int (x5))] dX9_wordOf_98 rfl rfl rfl (Nat.le_of_ble_eq_true rfl) rfl ?_
        refine g_goto 57 dX9_wordOf_101 rfl ?_
        exact g_sub [2, 3, 4, 5, 6, 7, 1, 0] _ rfl (h8 c1 c3 c4)
      · skip
        refine g_iconst (1) 92 dX9_wordOf_91 rfl rfl ?_
        refine g_goto 96 dX9_wordOf_92 rfl ?_
        refine g_istore 98 [(6, .int (1)), (0, .ref a0), (1, .int (x1)), (2, .int (x2)), (3, .int (x3)), (4, .int (x4)), (5, .int (x5)), (7, .int (x7))] dX9_wordOf_96 rfl (Nat.le_of_ble_eq_true rfl) rfl ?_
        refine g_iinc _ 7 101 [(7, .int ((x7 + 1))), (6, .int (1)), (0, .ref a0), (1, .int (x1)), (2, .int (x2)), (3, .int (x3)), (4, .int (x4)), (5, .int (x5))] dX9_wordOf_98 rfl rfl rfl (Nat.le_of_ble_eq_true rfl) rfl ?_
        refine g_goto 57 dX9_wordOf_101 rfl ?_
        exact g_sub [2, 3, 4, 5, 6, 7, 1, 0] _ rfl (h9 c1 c3 c4)

def bX9_wordOf_0 (N : Nat) (M : gM) (a0 : Nat) (x1 : Int32) (x2 : Int32) (k : Nat → Nat → Int32 → Int32 → Int32 → Int32 → Int32 → Int32 → Int32 → Int32) : Int32 := (k 0 a0 x1 x2 1 0 0 0 0)
def eX9_wordOf_0 (N : Nat) (M : gM) (a0 : Nat) (x1 : Int32) (x2 : Int32) (k : Nat → Nat → Int32 → Int32 → Int32 → Int32 → Int32 → Int32 → Int32 → Prop) : Prop := (k 0 a0 x1 x2 1 0 0 0 0)
def bX9_wordOf_5 (N : Nat) (M : gM) (a0 : Nat) (x1 : Int32) (x2 : Int32) (x3 : Int32) (x4 : Int32) (k : Nat → Nat → Int32 → Int32 → Int32 → Int32 → Int32 → Int32 → Int32 → Int32) : Int32 := (if 113 ≤ x4 then 0 else (k 1 a0 x1 x2 x3 x4 0 0 0))
def eX9_wordOf_5 (N : Nat) (M : gM) (a0 : Nat) (x1 : Int32) (x2 : Int32) (x3 : Int32) (x4 : Int32) (k : Nat → Nat → Int32 → Int32 → Int32 → Int32 → Int32 → Int32 → Int32 → Prop) : Prop := (if 113 ≤ x4 then True else (k 1 a0 x1 x2 x3 x4 0 0 0))
def bX9_wordOf_18 (N : Nat) (M : gM) (a0 : Nat) (x1 : Int32) (x2 : Int32) (x3 : Int32) (x4 : Int32) (x5 : Int32) (k : Nat → Nat → Int32 → Int32 → Int32 → Int32 → Int32 → Int32 → Int32 → Int32) : Int32 := (if (g_mi M (a0 + 6) ((x4 + x5)).toNatClampNeg) = 32 then (if x5 = (x2 - x1) then (k 2 a0 x1 x2 x3 x4 x5 1 0) else (k 2 a0 x1 x2 x3 x4 x5 0 0)) else (k 1 a0 x1 x2 x3 x4 (x5 + 1) 0 0))
def eX9_wordOf_18 (N : Nat) (M : gM) (a0 : Nat) (x1 : Int32) (x2 : Int32) (x3 : Int32) (x4 : Int32) (x5 : Int32) (k : Nat → Nat → Int32 → Int32 → Int32 → Int32 → Int32 → Int32 → Int32 → Prop) : Prop := (vp_in ((x4 + x5)) 113) ∧ (if (g_mi M (a0 + 6) ((x4 + x5)).toNatClampNeg) = 32 then (if x5 = (x2 - x1) then (k 2 a0 x1 x2 x3 x4 x5 1 0) else (k 2 a0 x1 x2 x3 x4 x5 0 0)) else (k 1 a0 x1 x2 x3 x4 (x5 + 1) 0 0))
def bX9_wordOf_57 (N : Nat) (M : gM) (a0 : Nat) (x1 : Int32) (x2 : Int32) (x3 : Int32) (x4 : Int32) (x5 : Int32) (x6 : Int32) (x7 : Int32) (k : Nat → Nat → Int32 → Int32 → Int32 → Int32 → Int32 → Int32 → Int32 → Int32) : Int32 := (if x5 ≤ x7 then (if x6 = 0 then (k 0 a0 x1 x2 (x3 + 1) (x4 + (x5 + 1)) 0 0 0) else x3) else (if x6 = 0 then (k 0 a0 x1 x2 (x3 + 1) (x4 + (x5 + 1)) 0 0 0) else (if (g_mi M (a0 + 6) ((x4 + x7)).toNatClampNeg) = (g_mi M (a0 + 7) ((x1 + x7)).toNatClampNeg) then (k 2 a0 x1 x2 x3 x4 x5 1 (x7 + 1)) else (k 2 a0 x1 x2 x3 x4 x5 0 (x7 + 1)))))
def eX9_wordOf_57 (N : Nat) (M : gM) (a0 : Nat) (x1 : Int32) (x2 : Int32) (x3 : Int32) (x4 : Int32) (x5 : Int32) (x6 : Int32) (x7 : Int32) (k : Nat → Nat → Int32 → Int32 → Int32 → Int32 → Int32 → Int32 → Int32 → Prop) : Prop := ((¬ x5 ≤ x7) → (¬ x6 = 0) → vp_in ((x4 + x7)) 113) ∧ ((¬ x5 ≤ x7) → (¬ x6 = 0) → vp_in ((x1 + x7)) 400) ∧ (if x5 ≤ x7 then (if x6 = 0 then (k 0 a0 x1 x2 (x3 + 1) (x4 + (x5 + 1)) 0 0 0) else True) else (if x6 = 0 then (k 0 a0 x1 x2 (x3 + 1) (x4 + (x5 + 1)) 0 0 0) else (if (g_mi M (a0 + 6) ((x4 + x7)).toNatClampNeg) = (g_mi M (a0 + 7) ((x1 + x7)).toNatClampNeg) then (k 2 a0 x1 x2 x3 x4 x5 1 (x7 + 1)) else (k 2 a0 x1 x2 x3 x4 x5 0 (x7 + 1)))))
def wX9_wordOf (N : Nat) (M : gM) : Nat → Nat → Nat → Int32 → Int32 → Int32 → Int32 → Int32 → Int32 → Int32 → Int32
  | 0, _, _, _, _, _, _, _, _, _ => 0
  | n + 1, h, a0, x1, x2, x3, x4, x5, x6, x7 => if h = 0 then bX9_wordOf_5 N M a0 x1 x2 x3 x4 (wX9_wordOf N M n) else if h = 1 then bX9_wordOf_18 N M a0 x1 x2 x3 x4 x5 (wX9_wordOf N M n) else bX9_wordOf_57 N M a0 x1 x2 x3 x4 x5 x6 x7 (wX9_wordOf N M n)
def vX9_wordOf (N : Nat) (M : gM) : Nat → Nat → Nat → Int32 → Int32 → Int32 → Int32 → Int32 → Int32 → Int32 → Prop
  | 0, _, _, _, _, _, _, _, _, _ => False
  | n + 1, h, a0, x1, x2, x3, x4, x5, x6, x7 => if h = 0 then eX9_wordOf_5 N M a0 x1 x2 x3 x4 (vX9_wordOf N M n) else if h = 1 then eX9_wordOf_18 N M a0 x1 x2 x3 x4 x5 (vX9_wordOf N M n) else eX9_wordOf_57 N M a0 x1 x2 x3 x4 x5 x6 x7 (vX9_wordOf N M n)
set_option maxRecDepth 10000 in
theorem lpX9_wordOf {X : gX} {d mc ms : Nat} {Q : Option Value → gM → Prop} (N : Nat) (M : gM) : ∀ n : Nat, (∀ (a0 : Nat) (x1 : Int32) (x2 : Int32) (x3 : Int32) (x4 : Int32) (x5 : Int32) (x6 : Int32) (x7 : Int32), Mo M a0 → vX9_wordOf N M n 0 a0 x1 x2 x3 x4 x5 x6 x7 → Q (some (.int (wX9_wordOf N M n 0 a0 x1 x2 x3 x4 x5 x6 x7))) M → Go X d mc ms kX9_wordOf Q 5 [(0, .ref a0), (1, .int (x1)), (2, .int (x2)), (3, .int (x3)), (4, .int (x4))] [] M 0 0) ∧ (∀ (a0 : Nat) (x1 : Int32) (x2 : Int32) (x3 : Int32) (x4 : Int32) (x5 : Int32) (x6 : Int32) (x7 : Int32), Mo M a0 → vX9_wordOf N M n 1 a0 x1 x2 x3 x4 x5 x6 x7 → Q (some (.int (wX9_wordOf N M n 1 a0 x1 x2 x3 x4 x5 x6 x7))) M → Go X d mc ms kX9_wordOf Q 18 [(0, .ref a0), (1, .int (x1)), (2, .int (x2)), (3, .int (x3)), (4, .int (x4)), (5, .int (x5))] [] M 0 0) ∧ (∀ (a0 : Nat) (x1 : Int32) (x2 : Int32) (x3 : Int32) (x4 : Int32) (x5 : Int32) (x6 : Int32) (x7 : Int32), Mo M a0 → vX9_wordOf N M n 2 a0 x1 x2 x3 x4 x5 x6 x7 → Q (some (.int (wX9_wordOf N M n 2 a0 x1 x2 x3 x4 x5 x6 x7))) M → Go X d mc ms kX9_wordOf Q 57 [(0, .ref a0), (1, .int (x1)), (2, .int (x2)), (3, .int (x3)), (4, .int (x4)), (5, .int (x5)), (6, .int (x6)), (7, .int (x7))] [] M 0 0) := by
  intro n
  induction n with
  | zero => exact ⟨fun _ _ _ _ _ _ _ _ _ h _ => h.elim, fun _ _ _ _ _ _ _ _ _ h _ => h.elim, fun _ _ _ _ _ _ _ _ _ h _ => h.elim⟩
  | succ n ih =>
    refine ⟨?_, ?_, ?_⟩
    · intro a0 x1 x2 x3 x4 x5 x6 x7 s0 hT hQ
      rw [vX9_wordOf, if_pos (show (0 : Nat) = 0 from rfl)] at hT
      rw [wX9_wordOf, if_pos (show (0 : Nat) = 0 from rfl)] at hQ
      unfold bX9_wordOf_5 at hQ
      unfold eX9_wordOf_5 at hT
      exact sX9_wordOf_5 (M := M) s0 (fun c1 => by simp only [if_pos c1] at hQ; exact hQ) (Nat.zero_le _) (Nat.zero_le _) (fun c1 => by simp only [if_neg c1] at hQ hT; exact ih.2.1 _ _ _ _ _ _ _ _ (s0) hT hQ)
    · intro a0 x1 x2 x3 x4 x5 x6 x7 s0 hT hQ
      rw [vX9_wordOf, if_neg (show ¬ (1 : Nat) = 0 by decide), if_pos (show (1 : Nat) = 1 from rfl)] at hT
      rw [wX9_wordOf, if_neg (show ¬ (1 : Nat) = 0 by decide), if_pos (show (1 : Nat) = 1 from rfl)] at hQ
      unfold bX9_wordOf_18 at hQ
      unfold eX9_wordOf_18 at hT
      obtain ⟨b1, hT⟩ := hT
      exact sX9_wordOf_18 (M := M) s0 b1 (fun c1 c2 => by simp only [if_pos c1, if_neg c2] at hQ hT; exact ih.2.2 _ _ _ _ _ _ _ _ (s0) hT hQ) (fun c1 c2 => by simp only [if_pos c1, if_pos c2] at hQ hT; exact ih.2.2 _ _ _ _ _ _ _ _ (s0) hT hQ) (fun c1 => by simp only [if_neg c1] at hQ hT; exact ih.2.1 _ _ _ _ _ _ _ _ (s0) hT hQ)
    · intro a0 x1 x2 x3 x4 x5 x6 x7 s0 hT hQ
      rw [vX9_wordOf, if_neg (show ¬ (2 : Nat) = 0 by decide), if_neg (show ¬ (2 : Nat) = 1 by decide)] at hT
      rw [wX9_wordOf, if_neg (show ¬ (2 : Nat) = 0 by decide), if_neg (show ¬ (2 : Nat) = 1 by decide)] at hQ
      unfold bX9_wordOf_57 at hQ
      unfold eX9_wordOf_57 at hT
      obtain ⟨b6, b7, hT⟩ := hT
      exact sX9_wordOf_57 (M := M) s0 (fun c1 c2 => by simp only [if_pos c1, if_pos c2] at hQ hT; exact ih.1 _ _ _ _ _ _ _ _ (s0) hT hQ) (fun c1 c2 => by simp only [if_pos c1, if_neg c2] at hQ; exact hQ) (Nat.zero_le _) (Nat.zero_le _) (fun c1 c3 => by simp only [if_neg c1, if_pos c3] at hQ hT; exact ih.1 _ _ _ _ _ _ _ _ (s0) hT hQ) b6 b7 (fun c1 c3 c4 => by simp only [if_neg c1, if_neg c3, if_neg c4] at hQ hT; exact ih.2.2 _ _ _ _ _ _ _ _ (s0) hT hQ) (fun c1 c3 c4 => by simp only [if_neg c1, if_neg c3, if_pos c4] at hQ hT; exact ih.2.2 _ _ _ _ _ _ _ _ (s0) hT hQ)
def fX9_wordOf (N : Nat) (M : gM) (a0 : Nat) (x1 : Int32) (x2 : Int32) : Int32 := (bX9_wordOf_0 N M a0 x1 x2 (wX9_wordOf N M N))
def EX9_wordOf (N : Nat) (M : gM) (a0 : Nat) (x1 : Int32) (x2 : Int32) : Prop := eX9_wordOf_0 N M a0 x1 x2 (vX9_wordOf N M N)
theorem tX9_wordOf {N : Nat} {X : gX} {d mc ms : Nat} {Q : Option Value → gM → Prop} {M : gM} {a0 : Nat} {x1 : Int32} {x2 : Int32} (s0 : Mo M a0) (hE : EX9_wordOf N M a0 x1 x2) (hQ : Q (some (.int (fX9_wordOf N M a0 x1 x2))) M) : Cn X d mc ms kX9_wordOf [.ref a0, .int (x1), .int (x2)] M Q := by
  unfold fX9_wordOf at hQ
  unfold bX9_wordOf_0 at hQ
  unfold EX9_wordOf eX9_wordOf_0 at hE
  have hT := hE
  have ih := lpX9_wordOf (X := X) (d := d) (mc := mc) (ms := ms) (Q := Q) N M N
  exact sX9_wordOf_0 s0 (ih.1 _ _ _ _ _ _ _ _ (s0) hT hQ)
/-! X9_few  -/
set_option maxRecDepth 4000 in
theorem sX9_few_0 {X : gX} {d mc ms : Nat} {Q : Option Value → gM → Prop} {M : gM} {a0 : Nat} {x1 : Int32} {x2 : Int32} (s0 : Mo M a0) (h1 : ((fX9_lies x1 1 20) = 0) → Q (some (.long ((-1)))) M) (h2 : (¬ (fX9_lies x1 1 20) = 0) → (¬ (fX9_lies x2 0 99) = 0) → Go X (d + 1) mc ms kX9_few Q 26 [(0, .ref a0), (1, .int (x1)), (2, .int (x2)), (3, .int (0))] [] M 0 0) (h3 : (¬ (fX9_lies x1 1 20) = 0) → ((fX9_lies x2 0 99) = 0) → Q (some (.long ((-1)))) M) : Cn X (d + 1) mc ms kX9_few [.ref a0, .int (x1), .int (x2)] M Q := by
  refine g_meth rfl rfl (Nat.le_of_ble_eq_true rfl) rfl ?_
  refine g_iload_n 1 1 dX9_few_0 rfl rfl ?_
  refine g_iconst (1) 2 dX9_few_1 rfl rfl ?_
  refine g_bipush (20) 4 dX9_few_2 rfl rfl ?_
  refine g_callS (mc1 := 0) (ms1 := 0) (rest := []) (av := [.int (x1), .int (1), .int (20)]) kX9_lies 7 dX9_few_4 rfl rfl mbX9_18 smX9_lies (Nat.le_of_ble_eq_true rfl) (Nat.zero_le _) (Nat.zero_le _) (tX9_lies  ?_)
  show Go X (d + 1) mc ms kX9_few Q 7 [(0, .ref a0), (1, .int (x1)), (2, .int (x2))] [.int ((fX9_lies x1 1 20))] M 0 0
  refine g_if_eq 20 10 dX9_few_7 rfl rfl (fun c1 => ?_) (fun c1 => ?_)
  · skip
    refine g_ldc2 ((-1)) 23 dX9_few_20 rfl q7_140 ?_
    exact g_lret dX9_few_23 rfl (Nat.zero_le _) (Nat.zero_le _) (h1 c1)
  · skip
    refine g_iload_n 2 11 dX9_few_10 rfl rfl ?_
    refine g_iconst (0) 12 dX9_few_11 rfl rfl ?_
    refine g_bipush (99) 14 dX9_few_12 rfl rfl ?_
    refine g_callS (mc1 := 0) (ms1 := 0) (rest := []) (av := [.int (x2), .int (0), .int (99)]) kX9_lies 17 dX9_few_14 rfl rfl mbX9_18 smX9_lies (Nat.le_of_ble_eq_true rfl) (Nat.zero_le _) (Nat.zero_le _) (tX9_lies  ?_)
    show Go X (d + 1) mc ms kX9_few Q 17 [(0, .ref a0), (1, .int (x1)), (2, .int (x2))] [.int ((fX9_lies x2 0 99))] M 0 0
    refine g_if_ne 24 20 dX9_few_17 rfl rfl (fun c2 => ?_) (fun c2 => ?_)
    · skip
      refine g_iconst (0) 25 dX9_few_24 rfl rfl ?_
      refine g_istore_n 26 [(3, .int (0)), (0, .ref a0), (1, .int (x1)), (2, .int (x2))] dX9_few_25 rfl (Nat.le_of_ble_eq_true rfl) rfl ?_
      exact g_sub [1, 2, 3, 0] _ rfl (h2 c1 c2)
    · skip
      refine g_ldc2 ((-1)) 23 dX9_few_20 rfl q7_140 ?_
      exact g_lret dX9_few_23 rfl (Nat.zero_le _) (Nat.zero_le _) (h3 c1 c2)

set_option maxRecDepth 4000 in
theorem sX9_few_26 {X : gX} {d mc ms : Nat} {Q : Option Value → gM → Prop} {M : gM} {c z : Nat} {a0 : Nat} {x1 : Int32} {x2 : Int32} {x3 : Int32} (s0 : Mo M a0) (h1 : (20 < x3) → Go X (d + 1) mc ms kX9_few Q 57 [(0, .ref a0), (1, .int (x1)), (2, .int (x2)), (3, .int (0))] [] M c z) (b2 : (¬ 20 < x3) → (¬ x3 = 0) → vp_in (x3) 21) (h3 : (¬ 20 < x3) → (¬ x3 = 0) → Go X (d + 1) mc ms kX9_few Q 26 [(0, .ref a0), (1, .int (x1)), (2, .int (x2)), (3, .int ((x3 + 1)))] [] (g_wl M (a0 + 21) (x3).toNatClampNeg 0) c z) (b4 : (¬ 20 < x3) → (x3 = 0) → vp_in (x3) 21) (h5 : (¬ 20 < x3) → (x3 = 0) → Go X (d + 1) mc ms kX9_few Q 26 [(0, .ref a0), (1, .int (x1)), (2, .int (x2)), (3, .int ((x3 + 1)))] [] (g_wl M (a0 + 21) (x3).toNatClampNeg 1000000000000) c z) : Go X (d + 1) mc ms kX9_few Q 26 [(0, .ref a0), (1, .int (x1)), (2, .int (x2)), (3, .int (x3))] [] M c z := by
  refine g_iload_n 3 27 dX9_few_26 rfl rfl ?_
  refine g_bipush (20) 29 dX9_few_27 rfl rfl ?_
  refine g_icmp_gt 55 32 dX9_few_29 rfl rfl (fun c1 => ?_) (fun c1 => ?_)
  · skip
    refine g_iconst (0) 56 dX9_few_55 rfl rfl ?_
    refine g_istore_n 57 [(3, .int (0)), (0, .ref a0), (1, .int (x1)), (2, .int (x2))] dX9_few_56 rfl (Nat.le_of_ble_eq_true rfl) rfl ?_
    exact g_sub [1, 2, 3, 0] _ rfl (h1 c1)
  · skip
    refine g_aload_n 0 33 dX9_few_32 rfl rfl ?_
    refine g_getR 36 (a0 + 21) dX9_few_33 rfl flX9_90 s0.1 s0.2.2.2.2.2.2.2.2.2.2.2.2.2.2.2.2.2.2.2.2.2.2.2.2.2.2.2.2.2.2.2.2.2.2.2.2.2.2.2.2.2.1 ?_
    refine g_iload_n 3 37 dX9_few_36 rfl rfl ?_
    refine g_iload_n 3 38 dX9_few_37 rfl rfl ?_
    refine g_if_ne 47 41 dX9_few_38 rfl rfl (fun c2 => ?_) (fun c2 => ?_)
    · skip
      refine g_lconst (0) 48 dX9_few_47 rfl rfl ?_
      refine h_lastore 49 (x3).toNatClampNeg dX9_few_48 rfl rfl s0.2.2.2.2.2.2.2.2.2.2.2.2.2.2.2.2.2.2.2.2.2.2.2.2.2.2.2.2.2.2.2.2.2.2.2.2.2.2.2.2.2.2.1 (b2 c1 c2) ?_
      refine g_iinc _ 3 52 [(3, .int ((x3 + 1))), (0, .ref a0), (1, .int (x1)), (2, .int (x2))] dX9_few_49 rfl rfl rfl (Nat.le_of_ble_eq_true rfl) rfl ?_
      refine g_goto 26 dX9_few_52 rfl ?_
      exact g_sub [1, 2, 3, 0] _ rfl (h3 c1 c2)
    · skip
      refine g_ldc2 (1000000000000) 44 dX9_few_41 rfl q7_141 ?_
      refine g_goto 48 dX9_few_44 rfl ?_
      refine h_lastore 49 (x3).toNatClampNeg dX9_few_48 rfl rfl s0.2.2.2.2.2.2.2.2.2.2.2.2.2.2.2.2.2.2.2.2.2.2.2.2.2.2.2.2.2.2.2.2.2.2.2.2.2.2.2.2.2.2.1 (b4 c1 c2) ?_
      refine g_iinc _ 3 52 [(3, .int ((x3 + 1))), (0, .ref a0), (1, .int (x1)), (2, .int (x2))] dX9_few_49 rfl rfl rfl (Nat.le_of_ble_eq_true rfl) rfl ?_
      refine g_goto 26 dX9_few_52 rfl ?_
      exact g_sub [1, 2, 3, 0] _ rfl (h5 c1 c2)

set_option maxRecDepth 4000 in
theorem sX9_few_57 {X : gX} {d mc ms : Nat} {Q : Option Value → gM → Prop} {M : gM} {c z : Nat} {a0 : Nat} {x1 : Int32} {x2 : Int32} {x3 : Int32} (s0 : Mo M a0) (h1 : (x2 ≤ x3) → Go X (d + 1) mc ms kX9_few Q 153 [(0, .ref a0), (1, .int (x1)), (3, .long (0)), (5, .int (0))] [] M c z) (h2 : (¬ x2 ≤ x3) → Go X (d + 1) mc ms kX9_few Q 67 [(0, .ref a0), (1, .int (x1)), (2, .int (x2)), (3, .int (x3)), (4, .int ((x1 - 1)))] [] M c z) : Go X (d + 1) mc ms kX9_few Q 57 [(0, .ref a0), (1, .int (x1)), (2, .int (x2)), (3, .int (x3))] [] M c z := by
  refine g_iload_n 3 58 dX9_few_57 rfl rfl ?_
  refine g_iload_n 2 59 dX9_few_58 rfl rfl ?_
  refine g_icmp_ge 148 62 dX9_few_59 rfl rfl (fun c1 => ?_) (fun c1 => ?_)
  · skip
    refine g_lconst (0) 149 dX9_few_148 rfl rfl ?_
    refine g_lstore_n 150 [(3, .long (0)), (0, .ref a0), (1, .int (x1)), (2, .int (x2))] dX9_few_149 rfl (Nat.le_of_ble_eq_true rfl) rfl ?_
    refine g_iconst (0) 151 dX9_few_150 rfl rfl ?_
    refine g_istore 153 [(5, .int (0)), (3, .long (0)), (0, .ref a0), (1, .int (x1)), (2, .int (x2))] dX9_few_151 rfl (Nat.le_of_ble_eq_true rfl) rfl ?_
    exact g_sub [2, 3, 1, 0] _ rfl (h1 c1)
  · skip
    refine g_iload_n 1 63 dX9_few_62 rfl rfl ?_
    refine g_iconst (1) 64 dX9_few_63 rfl rfl ?_
    refine g_isub 65 dX9_few_64 rfl ?_
    refine g_istore 67 [(4, .int ((x1 - 1))), (0, .ref a0), (1, .int (x1)), (2, .int (x2)), (3, .int (x3))] dX9_few_65 rfl (Nat.le_of_ble_eq_true rfl) rfl ?_
    exact g_sub [1, 2, 3, 4, 0] _ rfl (h2 c1)

set_option maxRecDepth 4000 in
theorem sX9_few_67 {X : gX} {d mc ms : Nat} {Q : Option Value → gM → Prop} {M : gM} {c z : Nat} {a0 : Nat} {x1 : Int32} {x2 : Int32} {x3 : Int32} {x4 : Int32} (s0 : Mo M a0) (h1 : (x4 < 0) → Go X (d + 1) mc ms kX9_few Q 57 [(0, .ref a0), (1, .int (x1)), (2, .int (x2)), (3, .int ((x3 + 1)))] [] M c z) (b2 : (¬ x4 < 0) → vp_in ((x4 + 1)) 21) (b3 : (¬ x4 < 0) → vp_in (x4) 21) (h4 : (¬ x4 < 0) → Go X (d + 1) mc ms kX9_few Q 67 [(0, .ref a0), (1, .int (x1)), (2, .int (x2)), (3, .int (x3)), (4, .int ((x4 + (-1))))] [] (g_wl (g_wl M (a0 + 21) ((x4 + 1)).toNatClampNeg ((g_ml M (a0 + 21) ((x4 + 1)).toNatClampNeg) + (((g_ml M (a0 + 21) (x4).toNatClampNeg) * (((g_mi M (a0 + 2) 200) : Int32).toInt64)) / 10))) (a0 + 21) (x4).toNatClampNeg (((g_ml (g_wl M (a0 + 21) ((x4 + 1)).toNatClampNeg ((g_ml M (a0 + 21) ((x4 + 1)).toNatClampNeg) + (((g_ml M (a0 + 21) (x4).toNatClampNeg) * (((g_mi M (a0 + 2) 200) : Int32).toInt64)) / 10))) (a0 + 21) (x4).toNatClampNeg) * (((10 - (g_mi (g_wl M (a0 + 21) ((x4 + 1)).toNatClampNeg ((g_ml M (a0 + 21) ((x4 + 1)).toNatClampNeg) + (((g_ml M (a0 + 21) (x4).toNatClampNeg) * (((g_mi M (a0 + 2) 200) : Int32).toInt64)) / 10))) (a0 + 2) 200)) : Int32).toInt64)) / 10)) c z) : Go X (d + 1) mc ms kX9_few Q 67 [(0, .ref a0), (1, .int (x1)), (2, .int (x2)), (3, .int (x3)), (4, .int (x4))] [] M c z := by
  refine g_iload 4 69 dX9_few_67 rfl rfl ?_
  refine g_if_lt 142 72 dX9_few_69 rfl rfl (fun c1 => ?_) (fun c1 => ?_)
  · skip
    refine g_iinc _ 3 145 [(3, .int ((x3 + 1))), (0, .ref a0), (1, .int (x1)), (2, .int (x2)), (4, .int (x4))] dX9_few_142 rfl rfl rfl (Nat.le_of_ble_eq_true rfl) rfl ?_
    refine g_goto 57 dX9_few_145 rfl ?_
    exact g_sub [1, 2, 3, 0] _ rfl (h1 c1)
  · skip
    refine g_aload_n 0 73 dX9_few_72 rfl rfl ?_
    refine g_getR 76 (a0 + 21) dX9_few_73 rfl flX9_90 s0.1 s0.2.2.2.2.2.2.2.2.2.2.2.2.2.2.2.2.2.2.2.2.2.2.2.2.2.2.2.2.2.2.2.2.2.2.2.2.2.2.2.2.2.1 ?_
    refine g_iload 4 78 dX9_few_76 rfl rfl ?_
    refine g_iconst (1) 79 dX9_few_78 rfl rfl ?_
    refine g_iadd 80 dX9_few_79 rfl ?_
    refine g_dup2 81 dX9_few_80 rfl rfl rfl ?_
    refine h_laload 82 ((x4 + 1)).toNatClampNeg dX9_few_81 rfl rfl s0.2.2.2.2.2.2.2.2.2.2.2.2.2.2.2.2.2.2.2.2.2.2.2.2.2.2.2.2.2.2.2.2.2.2.2.2.2.2.2.2.2.2.1 (b2 c1) ?_
    refine g_aload_n 0 83 dX9_few_82 rfl rfl ?_
    refine g_getR 86 (a0 + 21) dX9_few_83 rfl flX9_90 s0.1 s0.2.2.2.2.2.2.2.2.2.2.2.2.2.2.2.2.2.2.2.2.2.2.2.2.2.2.2.2.2.2.2.2.2.2.2.2.2.2.2.2.2.1 ?_
    refine g_iload 4 88 dX9_few_86 rfl rfl ?_
    refine h_laload 89 (x4).toNatClampNeg dX9_few_88 rfl rfl s0.2.2.2.2.2.2.2.2.2.2.2.2.2.2.2.2.2.2.2.2.2.2.2.2.2.2.2.2.2.2.2.2.2.2.2.2.2.2.2.2.2.2.1 (b3 c1) ?_
    refine g_aload_n 0 90 dX9_few_89 rfl rfl ?_
    refine g_getR 93 (a0 + 2) dX9_few_90 rfl flX9_28 s0.1 s0.2.2.2.1 ?_
    refine g_sipush (200) 96 dX9_few_93 rfl rfl ?_
    refine h_iaload 97 200 dX9_few_96 rfl rfl s0.2.2.2.2.1 (vp_lit rfl) ?_
    refine g_i2l 98 dX9_few_97 rfl ?_
    refine g_lmul 99 dX9_few_98 rfl ?_
    refine g_ldc2 (10) 102 dX9_few_99 rfl q7_142 ?_
    refine g_ldiv 103 dX9_few_102 rfl (by decide) ?_
    refine g_ladd 104 dX9_few_103 rfl ?_
    refine h_lastore 105 ((x4 + 1)).toNatClampNeg dX9_few_104 rfl rfl s0.2.2.2.2.2.2.2.2.2.2.2.2.2.2.2.2.2.2.2.2.2.2.2.2.2.2.2.2.2.2.2.2.2.2.2.2.2.2.2.2.2.2.1 (b2 c1) ?_
    refine g_aload_n 0 106 dX9_few_105 rfl rfl ?_
    refine g_getR 109 (a0 + 21) dX9_few_106 rfl flX9_90 (Sl.k (Sl.wl Sl.rf) s0.1) (Sl.r (Sl.wl Sl.rf) s0.2.2.2.2.2.2.2.2.2.2.2.2.2.2.2.2.2.2.2.2.2.2.2.2.2.2.2.2.2.2.2.2.2.2.2.2.2.2.2.2.2.1) ?_
    refine g_iload 4 111 dX9_few_109 rfl rfl ?_
    refine g_aload_n 0 112 dX9_few_111 rfl rfl ?_
    refine g_getR 115 (a0 + 21) dX9_few_112 rfl flX9_90 (Sl.k (Sl.wl Sl.rf) s0.1) (Sl.r (Sl.wl Sl.rf) s0.2.2.2.2.2.2.2.2.2.2.2.2.2.2.2.2.2.2.2.2.2.2.2.2.2.2.2.2.2.2.2.2.2.2.2.2.2.2.2.2.2.1) ?_
    refine g_iload 4 117 dX9_few_115 rfl rfl ?_
    refine h_laload 118 (x4).toNatClampNeg dX9_few_117 rfl rfl (Sl.k (Sl.wl Sl.rf) s0.2.2.2.2.2.2.2.2.2.2.2.2.2.2.2.2.2.2.2.2.2.2.2.2.2.2.2.2.2.2.2.2.2.2.2.2.2.2.2.2.2.2.1) (b3 c1) ?_
    refine g_bipush (10) 120 dX9_few_118 rfl rfl ?_
    refine g_aload_n 0 121 dX9_few_120 rfl rfl ?_
    refine g_getR 124 (a0 + 2) dX9_few_121 rfl flX9_28 (Sl.k (Sl.wl Sl.rf) s0.1) (Sl.r (Sl.wl Sl.rf) s0.2.2.2.1) ?_
    refine g_sipush (200) 127 dX9_few_124 rfl rfl ?_
    refine h_iaload 128 200 dX9_few_127 rfl rfl (Sl.k (Sl.wl Sl.rf) s0.2.2.2.2.1) (vp_lit rfl) ?_
    refine g_isub 129 dX9_few_128 rfl ?_
    refine g_i2l 130 dX9_few_129 rfl ?_
    refine g_lmul 131 dX9_few_130 rfl ?_
    refine g_ldc2 (10) 134 dX9_few_131 rfl q7_142 ?_
    refine g_ldiv 135 dX9_few_134 rfl (by decide) ?_
    refine h_lastore 136 (x4).toNatClampNeg dX9_few_135 rfl rfl (Sl.k (Sl.wl Sl.rf) s0.2.2.2.2.2.2.2.2.2.2.2.2.2.2.2.2.2.2.2.2.2.2.2.2.2.2.2.2.2.2.2.2.2.2.2.2.2.2.2.2.2.2.1) (b3 c1) ?_
    refine g_iinc _ 4 139 [(4, .int ((x4 + (-1)))), (0, .ref a0), (1, .int (x1)), (2, .int (x2)), (3, .int (x3))] dX9_few_136 rfl rfl rfl (Nat.le_of_ble_eq_true rfl) rfl ?_
    refine g_goto 67 dX9_few_139 rfl ?_
    exact g_sub [1, 2, 3, 4, 0] _ rfl (h4 c1)

set_option maxRecDepth 4000 in
theorem sX9_few_153 {X : gX} {d mc ms : Nat} {Q : Option Value → gM → Prop} {M : gM} {c z : Nat} {a0 : Nat} {x1 : Int32} {y3 : Int64} {x5 : Int32} (s0 : Mo M a0) (h1 : (x1 ≤ x5) → Q (some (.long (y3))) M) (w2 : c ≤ mc) (w3 : z ≤ ms) (b4 : (¬ x1 ≤ x5) → vp_in (x5) 21) (h5 : (¬ x1 ≤ x5) → Go X (d + 1) mc ms kX9_few Q 153 [(0, .ref a0), (1, .int (x1)), (3, .long ((y3 + (g_ml M (a0 + 21) (x5).toNatClampNeg)))), (5, .int ((x5 + 1)))] [] M c z) : Go X (d + 1) mc ms kX9_few Q 153 [(0, .ref a0), (1, .int (x1)), (3, .long (y3)), (5, .int (x5))] [] M c z := by
  refine g_iload 3 155 dX9_few_153 rfl rfl ?_
  refine g_iload_n 1 156 dX9_few_155 rfl rfl ?_
  refine g_icmp_ge 175 159 dX9_few_156 rfl rfl (fun c1 => ?_) (fun c1 => ?_)
  · skip
    refine g_lload_n 2 176 dX9_few_175 rfl rfl ?_
    exact g_lret dX9_few_176 rfl (w2) (w3) (h1 c1)
  · skip
    refine g_lload_n 2 160 dX9_few_159 rfl rfl ?_
    refine g_aload_n 0 161 dX9_few_160 rfl rfl ?_
    refine g_getR 164 (a0 + 21) dX9_few_161 rfl flX9_90 s0.1 s0.2.2.2.2.2.2.2.2.2.2.2.2.2.2.2.2.2.2.2.2.2.2.2.2.2.2.2.2.2.2.2.2.2.2.2.2.2.2.2.2.2.1 ?_
    refine g_iload 3 166 dX9_few_164 rfl rfl ?_
    refine h_laload 167 (x5).toNatClampNeg dX9_few_166 rfl rfl s0.2.2.2.2.2.2.2.2.2.2.2.2.2.2.2.2.2.2.2.2.2.2.2.2.2.2.2.2.2.2.2.2.2.2.2.2.2.2.2.2.2.2.1 (b4 c1) ?_
    refine g_ladd 168 dX9_few_167 rfl ?_
    refine g_lstore_n 169 [(3, .long ((y3 + (g_ml M (a0 + 21) (x5).toNatClampNeg)))), (0, .ref a0), (1, .int (x1)), (5, .int (x5))] dX9_few_168 rfl (Nat.le_of_ble_eq_true rfl) rfl ?_
    refine g_iinc _ 3 172 [(5, .int ((x5 + 1))), (3, .long ((y3 + (g_ml M (a0 + 21) (x5).toNatClampNeg)))), (0, .ref a0), (1, .int (x1))] dX9_few_169 rfl rfl rfl (Nat.le_of_ble_eq_true rfl) rfl ?_
    refine g_goto 153 dX9_few_172 rfl ?_
    exact g_sub [2, 3, 1, 0] _ rfl (h5 c1)

def bX9_few_0 (N : Nat) (M : gM) (a0 : Nat) (x1 : Int32) (x2 : Int32) (k : Nat → (Nat → Nat → Int32) → (Nat → Nat → Int64) → Nat → Int32 → Int32 → Int32 → Int32 → Int64 → Int32 → Int64 × (Nat → Nat → Int32) × (Nat → Nat → Int64)) : Int64 × (Nat → Nat → Int32) × (Nat → Nat → Int64) := (if (fX9_lies x1 1 20) = 0 then ((-1), g_mi M, g_ml M) else (if (fX9_lies x2 0 99) = 0 then ((-1), g_mi M, g_ml M) else (k 0 (g_mi M) (g_ml M) a0 x1 x2 0 0 0 0)))
def eX9_few_0 (N : Nat) (M : gM) (a0 : Nat) (x1 : Int32) (x2 : Int32) (k : Nat → (Nat → Nat → Int32) → (Nat → Nat → Int64) → Nat → Int32 → Int32 → Int32 → Int32 → Int64 → Int32 → Prop) : Prop := (if (fX9_lies x1 1 20) = 0 then True else (if (fX9_lies x2 0 99) = 0 then True else (k 0 (g_mi M) (g_ml M) a0 x1 x2 0 0 0 0)))
def bX9_few_26 (N : Nat) (M : gM) (f : Nat → Nat → Int32) (g : Nat → Nat → Int64) (a0 : Nat) (x1 : Int32) (x2 : Int32) (x3 : Int32) (k : Nat → (Nat → Nat → Int32) → (Nat → Nat → Int64) → Nat → Int32 → Int32 → Int32 → Int32 → Int64 → Int32 → Int64 × (Nat → Nat → Int32) × (Nat → Nat → Int64)) : Int64 × (Nat → Nat → Int32) × (Nat → Nat → Int64) := (if 20 < x3 then (k 1 (g_mi (g_wm M f g)) (g_ml (g_wm M f g)) a0 x1 x2 0 0 0 0) else (if x3 = 0 then (k 0 (g_mi (g_wl (g_wm M f g) (a0 + 21) (x3).toNatClampNeg 1000000000000)) (g_ml (g_wl (g_wm M f g) (a0 + 21) (x3).toNatClampNeg 1000000000000)) a0 x1 x2 (x3 + 1) 0 0 0) else (k 0 (g_mi (g_wl (g_wm M f g) (a0 + 21) (x3).toNatClampNeg 0)) (g_ml (g_wl (g_wm M f g) (a0 + 21) (x3).toNatClampNeg 0)) a0 x1 x2 (x3 + 1) 0 0 0)))
def eX9_few_26 (N : Nat) (M : gM) (f : Nat → Nat → Int32) (g : Nat → Nat → Int64) (a0 : Nat) (x1 : Int32) (x2 : Int32) (x3 : Int32) (k : Nat → (Nat → Nat → Int32) → (Nat → Nat → Int64) → Nat → Int32 → Int32 → Int32 → Int32 → Int64 → Int32 → Prop) : Prop := ((¬ 20 < x3) → (¬ x3 = 0) → vp_in (x3) 21) ∧ ((¬ 20 < x3) → (x3 = 0) → vp_in (x3) 21) ∧ (if 20 < x3 then (k 1 (g_mi (g_wm M f g)) (g_ml (g_wm M f g)) a0 x1 x2 0 0 0 0) else (if x3 = 0 then (k 0 (g_mi (g_wl (g_wm M f g) (a0 + 21) (x3).toNatClampNeg 1000000000000)) (g_ml (g_wl (g_wm M f g) (a0 + 21) (x3).toNatClampNeg 1000000000000)) a0 x1 x2 (x3 + 1) 0 0 0) else (k 0 (g_mi (g_wl (g_wm M f g) (a0 + 21) (x3).toNatClampNeg 0)) (g_ml (g_wl (g_wm M f g) (a0 + 21) (x3).toNatClampNeg 0)) a0 x1 x2 (x3 + 1) 0 0 0)))
def bX9_few_57 (N : Nat) (M : gM) (f : Nat → Nat → Int32) (g : Nat → Nat → Int64) (a0 : Nat) (x1 : Int32) (x2 : Int32) (x3 : Int32) (k : Nat → (Nat → Nat → Int32) → (Nat → Nat → Int64) → Nat → Int32 → Int32 → Int32 → Int32 → Int64 → Int32 → Int64 × (Nat → Nat → Int32) × (Nat → Nat → Int64)) : Int64 × (Nat → Nat → Int32) × (Nat → Nat → Int64) := (if x2 ≤ x3 then (k 3 (g_mi (g_wm M f g)) (g_ml (g_wm M f g)) a0 x1 0 0 0 0 0) else (k 2 (g_mi (g_wm M f g)) (g_ml (g_wm M f g)) a0 x1 x2 x3 (x1 - 1) 0 0))
def eX9_few_57 (N : Nat) (M : gM) (f : Nat → Nat → Int32) (g : Nat → Nat → Int64) (a0 : Nat) (x1 : Int32) (x2 : Int32) (x3 : Int32) (k : Nat → (Nat → Nat → Int32) → (Nat → Nat → Int64) → Nat → Int32 → Int32 → Int32 → Int32 → Int64 → Int32 → Prop) : Prop := (if x2 ≤ x3 then (k 3 (g_mi (g_wm M f g)) (g_ml (g_wm M f g)) a0 x1 0 0 0 0 0) else (k 2 (g_mi (g_wm M f g)) (g_ml (g_wm M f g)) a0 x1 x2 x3 (x1 - 1) 0 0))
def bX9_few_67 (N : Nat) (M : gM) (f : Nat → Nat → Int32) (g : Nat → Nat → Int64) (a0 : Nat) (x1 : Int32) (x2 : Int32) (x3 : Int32) (x4 : Int32) (k : Nat → (Nat → Nat → Int32) → (Nat → Nat → Int64) → Nat → Int32 → Int32 → Int32 → Int32 → Int64 → Int32 → Int64 × (Nat → Nat → Int32) × (Nat → Nat → Int64)) : Int64 × (Nat → Nat → Int32) × (Nat → Nat → Int64) := (if x4 < 0 then (k 1 (g_mi (g_wm M f g)) (g_ml (g_wm M f g)) a0 x1 x2 (x3 + 1) 0 0 0) else (k 2 (g_mi (g_wl (g_wl (g_wm M f g) (a0 + 21) ((x4 + 1)).toNatClampNeg ((g_ml (g_wm M f g) (a0 + 21) ((x4 + 1)).toNatClampNeg) + (((g_ml (g_wm M f g) (a0 + 21) (x4).toNatClampNeg) * (((g_mi (g_wm M f g) (a0 + 2) 200) : Int32).toInt64)) / 10))) (a0 + 21) (x4).toNatClampNeg (((g_ml (g_wl (g_wm M f g) (a0 + 21) ((x4 + 1)).toNatClampNeg ((g_ml (g_wm M f g) (a0 + 21) ((x4 + 1)).toNatClampNeg) + (((g_ml (g_wm M f g) (a0 + 21) (x4).toNatClampNeg) * (((g_mi (g_wm M f g) (a0 + 2) 200) : Int32).toInt64)) / 10))) (a0 + 21) (x4).toNatClampNeg) * (((10 - (g_mi (g_wl (g_wm M f g) (a0 + 21) ((x4 + 1)).toNatClampNeg ((g_ml (g_wm M f g) (a0 + 21) ((x4 + 1)).toNatClampNeg) + (((g_ml (g_wm M f g) (a0 + 21) (x4).toNatClampNeg) * (((g_mi (g_wm M f g) (a0 + 2) 200) : Int32).toInt64)) / 10))) (a0 + 2) 200)) : Int32).toInt64)) / 10))) (g_ml (g_wl (g_wl (g_wm M f g) (a0 + 21) ((x4 + 1)).toNatClampNeg ((g_ml (g_wm M f g) (a0 + 21) ((x4 + 1)).toNatClampNeg) + (((g_ml (g_wm M f g) (a0 + 21) (x4).toNatClampNeg) * (((g_mi (g_wm M f g) (a0 + 2) 200) : Int32).toInt64)) / 10))) (a0 + 21) (x4).toNatClampNeg (((g_ml (g_wl (g_wm M f g) (a0 + 21) ((x4 + 1)).toNatClampNeg ((g_ml (g_wm M f g) (a0 + 21) ((x4 + 1)).toNatClampNeg) + (((g_ml (g_wm M f g) (a0 + 21) (x4).toNatClampNeg) * (((g_mi (g_wm M f g) (a0 + 2) 200) : Int32).toInt64)) / 10))) (a0 + 21) (x4).toNatClampNeg) * (((10 - (g_mi (g_wl (g_wm M f g) (a0 + 21) ((x4 + 1)).toNatClampNeg ((g_ml (g_wm M f g) (a0 + 21) ((x4 + 1)).toNatClampNeg) + (((g_ml (g_wm M f g) (a0 + 21) (x4).toNatClampNeg) * (((g_mi (g_wm M f g) (a0 + 2) 200) : Int32).toInt64)) / 10))) (a0 + 2) 200)) : Int32).toInt64)) / 10))) a0 x1 x2 x3 (x4 + (-1)) 0 0))
def eX9_few_67 (N : Nat) (M : gM) (f : Nat → Nat → Int32) (g : Nat → Nat → Int64) (a0 : Nat) (x1 : Int32) (x2 : Int32) (x3 : Int32) (x4 : Int32) (k : Nat → (Nat → Nat → Int32) → (Nat → Nat → Int64) → Nat → Int32 → Int32 → Int32 → Int32 → Int64 → Int32 → Prop) : Prop := ((¬ x4 < 0) → vp_in ((x4 + 1)) 21) ∧ ((¬ x4 < 0) → vp_in (x4) 21) ∧ (if x4 < 0 then (k 1 (g_mi (g_wm M f g)) (g_ml (g_wm M f g)) a0 x1 x2 (x3 + 1) 0 0 0) else (k 2 (g_mi (g_wl (g_wl (g_wm M f g) (a0 + 21) ((x4 + 1)).toNatClampNeg ((g_ml (g_wm M f g) (a0 + 21) ((x4 + 1)).toNatClampNeg) + (((g_ml (g_wm M f g) (a0 + 21) (x4).toNatClampNeg) * (((g_mi (g_wm M f g) (a0 + 2) 200) : Int32).toInt64)) / 10))) (a0 + 21) (x4).toNatClampNeg (((g_ml (g_wl (g_wm M f g) (a0 + 21) ((x4 + 1)).toNatClampNeg ((g_ml (g_wm M f g) (a0 + 21) ((x4 + 1)).toNatClampNeg) + (((g_ml (g_wm M f g) (a0 + 21) (x4).toNatClampNeg) * (((g_mi (g_wm M f g) (a0 + 2) 200) : Int32).toInt64)) / 10))) (a0 + 21) (x4).toNatClampNeg) * (((10 - (g_mi (g_wl (g_wm M f g) (a0 + 21) ((x4 + 1)).toNatClampNeg ((g_ml (g_wm M f g) (a0 + 21) ((x4 + 1)).toNatClampNeg) + (((g_ml (g_wm M f g) (a0 + 21) (x4).toNatClampNeg) * (((g_mi (g_wm M f g) (a0 + 2) 200) : Int32).toInt64)) / 10))) (a0 + 2) 200)) : Int32).toInt64)) / 10))) (g_ml (g_wl (g_wl (g_wm M f g) (a0 + 21) ((x4 + 1)).toNatClampNeg ((g_ml (g_wm M f g) (a0 + 21) ((x4 + 1)).toNatClampNeg) + (((g_ml (g_wm M f g) (a0 + 21) (x4).toNatClampNeg) * (((g_mi (g_wm M f g) (a0 + 2) 200) : Int32).toInt64)) / 10))) (a0 + 21) (x4).toNatClampNeg (((g_ml (g_wl (g_wm M f g) (a0 + 21) ((x4 + 1)).toNatClampNeg ((g_ml (g_wm M f g) (a0 + 21) ((x4 + 1)).toNatClampNeg) + (((g_ml (g_wm M f g) (a0 + 21) (x4).toNatClampNeg) * (((g_mi (g_wm M f g) (a0 + 2) 200) : Int32).toInt64)) / 10))) (a0 + 21) (x4).toNatClampNeg) * (((10 - (g_mi (g_wl (g_wm M f g) (a0 + 21) ((x4 + 1)).toNatClampNeg ((g_ml (g_wm M f g) (a0 + 21) ((x4 + 1)).toNatClampNeg) + (((g_ml (g_wm M f g) (a0 + 21) (x4).toNatClampNeg) * (((g_mi (g_wm M f g) (a0 + 2) 200) : Int32).toInt64)) / 10))) (a0 + 2) 200)) : Int32).toInt64)) / 10))) a0 x1 x2 x3 (x4 + (-1)) 0 0))
def bX9_few_153 (N : Nat) (M : gM) (f : Nat → Nat → Int32) (g : Nat → Nat → Int64) (a0 : Nat) (x1 : Int32) (y3 : Int64) (x5 : Int32) (k : Nat → (Nat → Nat → Int32) → (Nat → Nat → Int64) → Nat → Int32 → Int32 → Int32 → Int32 → Int64 → Int32 → Int64 × (Nat → Nat → Int32) × (Nat → Nat → Int64)) : Int64 × (Nat → Nat → Int32) × (Nat → Nat → Int64) := (if x1 ≤ x5 then (y3, g_mi (g_wm M f g), g_ml (g_wm M f g)) else (k 3 (g_mi (g_wm M f g)) (g_ml (g_wm M f g)) a0 x1 0 0 0 (y3 + (g_ml (g_wm M f g) (a0 + 21) (x5).toNatClampNeg)) (x5 + 1)))
def eX9_few_153 (N : Nat) (M : gM) (f : Nat → Nat → Int32) (g : Nat → Nat → Int64) (a0 : Nat) (x1 : Int32) (y3 : Int64) (x5 : Int32) (k : Nat → (Nat → Nat → Int32) → (Nat → Nat → Int64) → Nat → Int32 → Int32 → Int32 → Int32 → Int64 → Int32 → Prop) : Prop := ((¬ x1 ≤ x5) → vp_in (x5) 21) ∧ (if x1 ≤ x5 then True else (k 3 (g_mi (g_wm M f g)) (g_ml (g_wm M f g)) a0 x1 0 0 0 (y3 + (g_ml (g_wm M f g) (a0 + 21) (x5).toNatClampNeg)) (x5 + 1)))
def wX9_few (N : Nat) (M : gM) : Nat → Nat → (Nat → Nat → Int32) → (Nat → Nat → Int64) → Nat → Int32 → Int32 → Int32 → Int32 → Int64 → Int32 → Int64 × (Nat → Nat → Int32) × (Nat → Nat → Int64)
  | 0, _, f, g, _, _, _, _, _, _, _ => (0, f, g)
  | n + 1, h, f, g, a0, x1, x2, x3, x4, y3, x5 => if h = 0 then bX9_few_26 N M f g a0 x1 x2 x3 (wX9_few N M n) else if h = 1 then bX9_few_57 N M f g a0 x1 x2 x3 (wX9_few N M n) else if h = 2 then bX9_few_67 N M f g a0 x1 x2 x3 x4 (wX9_few N M n) else bX9_few_153 N M f g a0 x1 y3 x5 (wX9_few N M n)
def vX9_few (N : Nat) (M : gM) : Nat → Nat → (Nat → Nat → Int32) → (Nat → Nat → Int64) → Nat → Int32 → Int32 → Int32 → Int32 → Int64 → Int32 → Prop
  | 0, _, _, _, _, _, _, _, _, _, _ => False
  | n + 1, h, f, g, a0, x1, x2, x3, x4, y3, x5 => if h = 0 then eX9_few_26 N M f g a0 x1 x2 x3 (vX9_few N M n) else if h = 1 then eX9_few_57 N M f g a0 x1 x2 x3 (vX9_few N M n) else if h = 2 then eX9_few_67 N M f g a0 x1 x2 x3 x4 (vX9_few N M n) else eX9_few_153 N M f g a0 x1 y3 x5 (vX9_few N M n)
set_option maxRecDepth 10000 in
theorem lpX9_few {X : gX} {d mc ms : Nat} {Q : Option Value → gM → Prop} (N : Nat) (M : gM) : ∀ n : Nat, (∀ (f : Nat → Nat → Int32) (g : Nat → Nat → Int64) (a0 : Nat) (x1 : Int32) (x2 : Int32) (x3 : Int32) (x4 : Int32) (y3 : Int64) (x5 : Int32), Mo M a0 → vX9_few N M n 0 f g a0 x1 x2 x3 x4 y3 x5 → Q (some (.long (wX9_few N M n 0 f g a0 x1 x2 x3 x4 y3 x5).1)) (g_wm M (wX9_few N M n 0 f g a0 x1 x2 x3 x4 y3 x5).2.1 (wX9_few N M n 0 f g a0 x1 x2 x3 x4 y3 x5).2.2) → Go X (d + 1) mc ms kX9_few Q 26 [(0, .ref a0), (1, .int (x1)), (2, .int (x2)), (3, .int (x3))] [] (g_wm M f g) 0 0) ∧ (∀ (f : Nat → Nat → Int32) (g : Nat → Nat → Int64) (a0 : Nat) (x1 : Int32) (x2 : Int32) (x3 : Int32) (x4 : Int32) (y3 : Int64) (x5 : Int32), Mo M a0 → vX9_few N M n 1 f g a0 x1 x2 x3 x4 y3 x5 → Q (some (.long (wX9_few N M n 1 f g a0 x1 x2 x3 x4 y3 x5).1)) (g_wm M (wX9_few N M n 1 f g a0 x1 x2 x3 x4 y3 x5).2.1 (wX9_few N M n 1 f g a0 x1 x2 x3 x4 y3 x5).2.2) → Go X (d + 1) mc ms kX9_few Q 57 [(0, .ref a0), (1, .int (x1)), (2, .int (x2)), (3, .int (x3))] [] (g_wm M f g) 0 0) ∧ (∀ (f : Nat → Nat → Int32) (g : Nat → Nat → Int64) (a0 : Nat) (x1 : Int32) (x2 : Int32) (x3 : Int32) (x4 : Int32) (y3 : Int64) (x5 : Int32), Mo M a0 → vX9_few N M n 2 f g a0 x1 x2 x3 x4 y3 x5 → Q (some (.long (wX9_few N M n 2 f g a0 x1 x2 x3 x4 y3 x5).1)) (g_wm M (wX9_few N M n 2 f g a0 x1 x2 x3 x4 y3 x5).2.1 (wX9_few N M n 2 f g a0 x1 x2 x3 x4 y3 x5).2.2) → Go X (d + 1) mc ms kX9_few Q 67 [(0, .ref a0), (1, .int (x1)), (2, .int (x2)), (3, .int (x3)), (4, .int (x4))] [] (g_wm M f g) 0 0) ∧ (∀ (f : Nat → Nat → Int32) (g : Nat → Nat → Int64) (a0 : Nat) (x1 : Int32) (x2 : Int32) (x3 : Int32) (x4 : Int32) (y3 : Int64) (x5 : Int32), Mo M a0 → vX9_few N M n 3 f g a0 x1 x2 x3 x4 y3 x5 → Q (some (.long (wX9_few N M n 3 f g a0 x1 x2 x3 x4 y3 x5).1)) (g_wm M (wX9_few N M n 3 f g a0 x1 x2 x3 x4 y3 x5).2.1 (wX9_few N M n 3 f g a0 x1 x2 x3 x4 y3 x5).2.2) → Go X (d + 1) mc ms kX9_few Q 153 [(0, .ref a0), (1, .int (x1)), (3, .long (y3)), (5, .int (x5))] [] (g_wm M f g) 0 0) := by
  intro n
  induction n with
  | zero => exact ⟨fun _ _ _ _ _ _ _ _ _ _ h _ => h.elim, fun _ _ _ _ _ _ _ _ _ _ h _ => h.elim, fun _ _ _ _ _ _ _ _ _ _ h _ => h.elim, fun _ _ _ _ _ _ _ _ _ _ h _ => h.elim⟩
  | succ n ih =>
    refine ⟨?_, ?_, ?_, ?_⟩
    · intro f g a0 x1 x2 x3 x4 y3 x5 s0 hT hQ
      rw [vX9_few, if_pos (show (0 : Nat) = 0 from rfl)] at hT
      rw [wX9_few, if_pos (show (0 : Nat) = 0 from rfl)] at hQ
      unfold bX9_few_26 at hQ
      unfold eX9_few_26 at hT
      obtain ⟨b2, b4, hT⟩ := hT
      exact sX9_few_26 (M := (g_wm M f g)) (Mo.sl Sl.wm s0) (fun c1 => by simp only [if_pos c1] at hQ hT; exact Sl.g Sl.wm (ih.2.1 _ _ _ _ _ _ _ _ _ (s0) hT hQ)) b2 (fun c1 c2 => by simp only [if_neg c1, if_neg c2] at hQ hT; exact Sl.g (Sl.tr Sl.wm (Sl.wl Sl.rf)) (ih.1 _ _ _ _ _ _ _ _ _ (s0) hT hQ)) b4 (fun c1 c2 => by simp only [if_neg c1, if_pos c2] at hQ hT; exact Sl.g (Sl.tr Sl.wm (Sl.wl Sl.rf)) (ih.1 _ _ _ _ _ _ _ _ _ (s0) hT hQ))
    · intro f g a0 x1 x2 x3 x4 y3 x5 s0 hT hQ
      rw [vX9_few, if_neg (show ¬ (1 : Nat) = 0 by decide), if_pos (show (1 : Nat) = 1 from rfl)] at hT
      rw [wX9_few, if_neg (show ¬ (1 : Nat) = 0 by decide), if_pos (show (1 : Nat) = 1 from rfl)] at hQ
      unfold bX9_few_57 at hQ
      unfold eX9_few_57 at hT
      exact sX9_few_57 (M := (g_wm M f g)) (Mo.sl Sl.wm s0) (fun c1 => by simp only [if_pos c1] at hQ hT; exact Sl.g Sl.wm (ih.2.2.2 _ _ _ _ _ _ _ _ _ (s0) hT hQ)) (fun c1 => by simp only [if_neg c1] at hQ hT; exact Sl.g Sl.wm (ih.2.2.1 _ _ _ _ _ _ _ _ _ (s0) hT hQ))
    · intro f g a0 x1 x2 x3 x4 y3 x5 s0 hT hQ
      rw [vX9_few, if_neg (show ¬ (2 : Nat) = 0 by decide), if_neg (show ¬ (2 : Nat) = 1 by decide), if_pos (show (2 : Nat) = 2 from rfl)] at hT
      rw [wX9_few, if_neg (show ¬ (2 : Nat) = 0 by decide), if_neg (show ¬ (2 : Nat) = 1 by decide), if_pos (show (2 : Nat) = 2 from rfl)] at hQ
      unfold bX9_few_67 at hQ
      unfold eX9_few_67 at hT
      obtain ⟨b2, b3, hT⟩ := hT
      exact sX9_few_67 (M := (g_wm M f g)) (Mo.sl Sl.wm s0) (fun c1 => by simp only [if_pos c1] at hQ hT; exact Sl.g Sl.wm (ih.2.1 _ _ _ _ _ _ _ _ _ (s0) hT hQ)) b2 b3 (fun c1 => by simp only [if_neg c1] at hQ hT; exact Sl.g (Sl.tr Sl.wm (Sl.wl (Sl.wl Sl.rf))) (ih.2.2.1 _ _ _ _ _ _ _ _ _ (s0) hT hQ))
    · intro f g a0 x1 x2 x3 x4 y3 x5 s0 hT hQ
      rw [vX9_few, if_neg (show ¬ (3 : Nat) = 0 by decide), if_neg (show ¬ (3 : Nat) = 1 by decide), if_neg (show ¬ (3 : Nat) = 2 by decide)] at hT
      rw [wX9_few, if_neg (show ¬ (3 : Nat) = 0 by decide), if_neg (show ¬ (3 : Nat) = 1 by decide), if_neg (show ¬ (3 : Nat) = 2 by decide)] at hQ
      unfold bX9_few_153 at hQ
      unfold eX9_few_153 at hT
      obtain ⟨b4, hT⟩ := hT
      exact sX9_few_153 (M := (g_wm M f g)) (Mo.sl Sl.wm s0) (fun c1 => by simp only [if_pos c1] at hQ; exact Sl.q Sl.wm hQ) (Nat.zero_le _) (Nat.zero_le _) b4 (fun c1 => by simp only [if_neg c1] at hQ hT; exact Sl.g Sl.wm (ih.2.2.2 _ _ _ _ _ _ _ _ _ (s0) hT hQ))
def fX9_few (N : Nat) (M : gM) (a0 : Nat) (x1 : Int32) (x2 : Int32) : Int64 := (bX9_few_0 N M a0 x1 x2 (wX9_few N M N)).1
def mX9_few (N : Nat) (M : gM) (a0 : Nat) (x1 : Int32) (x2 : Int32) : gM := g_wm M (bX9_few_0 N M a0 x1 x2 (wX9_few N M N)).2.1 (bX9_few_0 N M a0 x1 x2 (wX9_few N M N)).2.2
theorem jX9_few {N : Nat} {M : gM} {a0 : Nat} {x1 : Int32} {x2 : Int32} : Sl M (mX9_few N M a0 x1 x2) := Sl.wm
def EX9_few (N : Nat) (M : gM) (a0 : Nat) (x1 : Int32) (x2 : Int32) : Prop := eX9_few_0 N M a0 x1 x2 (vX9_few N M N)
theorem tX9_few {N : Nat} {X : gX} {d mc ms : Nat} {Q : Option Value → gM → Prop} {M : gM} {a0 : Nat} {x1 : Int32} {x2 : Int32} (s0 : Mo M a0) (hE : EX9_few N M a0 x1 x2) (hQ : Q (some (.long (fX9_few N M a0 x1 x2))) (mX9_few N M a0 x1 x2)) : Cn X (d + 1) mc ms kX9_few [.ref a0, .int (x1), .int (x2)] M Q := by
  unfold fX9_few mX9_few at hQ
  unfold bX9_few_0 at hQ
  unfold EX9_few eX9_few_0 at hE
  have hT := hE
  have ih := lpX9_few (X := X) (d := d) (mc := mc) (ms := ms) (Q := Q) N M N
  exact sX9_few_0 s0 (fun c1 => by simp only [if_pos c1] at hQ; exact Sl.q Sl.rf hQ) (fun c1 c2 => by simp only [if_neg c1, if_neg c2] at hQ hT; exact Sl.g Sl.rf (ih.1 _ _ _ _ _ _ _ _ _ (s0) hT hQ)) (fun c1 c2 => by simp only [if_neg c1, if_pos c2] at hQ; exact Sl.q Sl.rf hQ)
