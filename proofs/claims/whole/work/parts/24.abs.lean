/-! THE TOWN, as it was told; what follows from it -/
/-- places, seekers, law; hard by place; minutes, length, habit by seeker -/
def zT : Type := Fin 7 × Fin 5 × Fin 3 × (Nat → Fin 10) × (Nat → Fin 31) × (Nat → Fin 6) × (Nat → Nat → Fin 6)
def tpn (T : zT) : Fin 7 := T.1
def tsn (T : zT) : Fin 5 := T.2.1
def tlw (T : zT) : Fin 3 := T.2.2.1
def thd (T : zT) : Nat → Fin 10 := T.2.2.2.1
def tmn (T : zT) : Nat → Fin 31 := T.2.2.2.2.1
def tln (T : zT) : Nat → Fin 6 := T.2.2.2.2.2.1
def thb (T : zT) : Nat → Nat → Fin 6 := T.2.2.2.2.2.2
def zTw (T : zT) : Prop := (∀ p, p < (tpn T).val → 0 < (thd T p).val) ∧ ∀ k, k < (tsn T).val → 0 < (tln T k).val ∧ ∀ i, i < (tln T k).val → (thb T k i).val < (tpn T).val
/-- as the model keeps it -/
def zTo (T : zT) (f : Nat → Int32) : Prop := f 0 = nI (tpn T) ∧ f 1 = nI (tsn T) ∧ f 2 = nI (tlw T) ∧ (∀ p, p < (tpn T).val → f (4 + p) = nI (thd T p)) ∧ (∀ k, k < (tsn T).val → f (10 + k) = nI (tmn T k)) ∧ (∀ k, k < (tsn T).val → f (14 + k) = nI (tln T k)) ∧ (∀ k, k < (tsn T).val → ∀ i, i < (tln T k).val → f (18 + 5 * k + i) = nI (thb T k i))
/-- q is no worse than p, and another -/
def tin (T : zT) (p q : Nat) : Bool := decide (q ≠ p ∧ (thd T p).val ≤ (thd T q).val)
def tnu (T : zT) (p : Nat) : Nat → Nat
  | 0 => 0
  | q + 1 => if tin T p q = true then tnu T p q + 2 ^ q else tnu T p q
theorem tnu_s (T : zT) (p q : Nat) : tnu T p (q + 1) = if q = p then tnu T p q else if (thd T q).val < (thd T p).val then tnu T p q else tnu T p q + 2 ^ q := by
  show (if tin T p q = true then tnu T p q + 2 ^ q else tnu T p q) = _
  unfold tin
  by_cases e1 : q = p
  · simp [e1]
  · by_cases e2 : (thd T q).val < (thd T p).val
    · simp [e1, e2]
    · simp [e1, e2, Nat.not_lt.1 e2]
def tnw (T : zT) (p : Nat) : Nat := tnu T p (tpn T)
theorem tnu_lt (T : zT) (p : Nat) : ∀ q, tnu T p q < 2 ^ q
  | 0 => Nat.zero_lt_one
  | q + 1 => by
    have := tnu_lt T p q
    unfold tnu; rw [Nat.pow_succ]; split <;> omega
theorem tnu_64 (T : zT) (p : Nat) {q : Nat} (h : q ≤ 6) : tnu T p q < 64 := Nat.lt_of_lt_of_le (tnu_lt T p q) (Nat.pow_le_pow_right (by decide) h)
theorem tnw_64 (T : zT) (p : Nat) : tnw T p < 64 := tnu_64 T p (by omega)
/-- the best of them so far: the first of the least hard, or of the hardest -/
def tbt (T : zT) (far : Bool) (a b : Nat) : Bool := if far = true then decide ((thd T b).val < (thd T a).val) else decide ((thd T a).val < (thd T b).val)
def tbe (T : zT) (far : Bool) (p : Nat) : Nat → Option Nat
  | 0 => none
  | q + 1 => if tin T p q = true then (match tbe T far p q with
    | none => some q
    | some f => if tbt T far q f = true then some q else some f) else tbe T far p q
def zfn (o : Option Nat) : Int32 := match o with
  | none => -9
  | some q => nI q
/-- how many of a set; the i-th of them -/
def cnt (m : Nat) : Nat → Nat
  | 0 => 0
  | k + 1 => cnt m k + m / 2 ^ k % 2
theorem cnt_s (m k : Nat) : cnt m (k + 1) = cnt m k + m / 2 ^ k % 2 := rfl
theorem cnt_le (m : Nat) : ∀ k, cnt m k ≤ k
  | 0 => Nat.le_refl _
  | k + 1 => by have := cnt_le m k; unfold cnt; omega
def mbr (m i : Nat) : Nat → Option Nat
  | 0 => none
  | k + 1 => if m / 2 ^ k % 2 = 1 ∧ cnt m k = i then some k else mbr m i k
theorem mbr_s (m i k : Nat) : mbr m i (k + 1) = if m / 2 ^ k % 2 = 1 ∧ cnt m k = i then some k else mbr m i k := rfl
/-- the lot's next; what it tells -/
def lnx (x : Int32) : Int32 := x * 1103515245 + nI 12345
def ldr (x : Int32) : Nat := x.toBitVec.toNat / 65536
theorem ldr_lt (x : Int32) : ldr x < 65536 := by
  unfold ldr; have := x.toBitVec.isLt; omega
theorem ldr_eq (x : Int32) : (x.toUInt32 >>> ((nI 16).toUInt32 &&& Int32.toUInt32 31)).toInt32 = nI (ldr x) := by
  have h := pk_ushr x (nI 16) 16 (by decide +kernel)
  apply Int32.toBitVec_inj.1
  apply BitVec.eq_of_toNat_eq
  rw [h, pk_tn (Nat.lt_trans (ldr_lt x) (by decide))]
  rfl
/-- who finds it hides it: where it lies then, and the lot -/
def thi (T : zT) (law r : Nat) (lot : Int32) : Nat × Int32 :=
  if tnw T r = 0 then (r, lot)
  else if law = 2 then ((mbr (tnw T r) (ldr (lnx lot) % cnt (tnw T r) 8) 8).getD 0, lnx lot)
  else ((tbe T (decide (law = 1)) r (tpn T)).getD 0, lot)
/-- the place in a habit behind the i-th -/
def tnx (T : zT) (k i : Nat) : Nat := if i + 1 < (tln T k).val then i + 1 else 0
theorem tnx_m {T : zT} {k i : Nat} (h : i < (tln T k).val) : (i + 1) % (tln T k).val = tnx T k i := by
  unfold tnx; split
  · exact Nat.mod_eq_of_lt (by assumption)
  · rw [show i + 1 = (tln T k).val by omega, Nat.mod_self]
theorem tnx_lt {T : zT} {k i : Nat} (h : 0 < (tln T k).val) : tnx T k i < (tln T k).val := by
  unfold tnx; split <;> omega
/-- a seeker's walk: whether he finds it at r, and where his habit stops -/
def twk (T : zT) (k r : Nat) : Nat → Nat → Nat → Bool × Nat
  | 0, _, i => (false, i)
  | f + 1, left, i => if left < (thd T (thb T k i)).val then (false, i) else if (thb T k i).val = r then (true, tnx T k i) else twk T k r f (left - (thd T (thb T k i)).val) (tnx T k i)
def tfi (T : zT) (k r i : Nat) : Bool × Nat := twk T k r ((tmn T k).val + 1) (tmn T k).val i
def pup {α : Type} (f : Nat → α) (k : Nat) (v : α) : Nat → α := fun j => if j = k then v else f j
/-- the first k seekers' week: habits, ring, lot, who found it -/
def tpl (T : zT) (law : Nat) (nx : Nat → Nat) (r : Nat) (lot : Int32) : Nat → (Nat → Nat) × Nat × Int32 × Nat
  | 0 => (nx, r, lot, 0)
  | k + 1 =>
    if (tfi T k (tpl T law nx r lot k).2.1 ((tpl T law nx r lot k).1 k)).1 = true then
      (pup (tpl T law nx r lot k).1 k (tfi T k (tpl T law nx r lot k).2.1 ((tpl T law nx r lot k).1 k)).2, (thi T law (tpl T law nx r lot k).2.1 (tpl T law nx r lot k).2.2.1).1, (thi T law (tpl T law nx r lot k).2.1 (tpl T law nx r lot k).2.2.1).2, (tpl T law nx r lot k).2.2.2 + 2 ^ k)
    else (pup (tpl T law nx r lot k).1 k (tfi T k (tpl T law nx r lot k).2.1 ((tpl T law nx r lot k).1 k)).2, (tpl T law nx r lot k).2.1, (tpl T law nx r lot k).2.2.1, (tpl T law nx r lot k).2.2.2)
