/-! THE TOWN, as it was told; what follows from it -/
/-- places, seekers, law; hard by place; minutes, length, habit by seeker -/
def zT : Type := Fin 7 × Fin 5 × Fin 3 × (Nat → Fin 10) × (Nat → Fin 31) × (Nat → Fin 6) × (Nat → Nat → Fin 6)
def tpn (T : zT) : Fin 7 := T.1
def tsn (T : zT) : Fin 5 := T.2.1
def tlw (T : zT) : Fin 3 := T.2.2.1
def thd (T : zT) : Nat → Fin 10 := T.2.2.2.1
def tmn (T : zT) : Nat → Fin 31 := T.2.2.2.2.1
def tln (T : zT) : Nat → Fin 6 := T.2.2.2.2.2.1
def thb (T : zT) : Nat → Nat → Fin 6 := T.2.2.2.2.2.2
def zTw (T : zT) : Prop := (∀ p, p < (tpn T).val → 0 < (thd T p).val) ∧ ∀ k, k < (tsn T).val → 0 < (tln T k).val ∧ ∀ i, i < (tln T k).val → (thb T k i).val < (tpn T).val
/-- as the model keeps it -/
def zTo (T : zT) (f : Nat → Int32) : Prop := f 0 = nI (tpn T) ∧ f 1 = nI (tsn T) ∧ f 2 = nI (tlw T) ∧ (∀ p, p < (tpn T).val → f (4 + p) = nI (thd T p)) ∧ (∀ k, k < (tsn T).val → f (10 + k) = nI (tmn T k)) ∧ (∀ k, k < (tsn T).val → f (14 + k) = nI (tln T k)) ∧ (∀ k, k < (tsn T).val → ∀ i, i < (tln T k).val → f (18 + 5 * k + i) = nI (thb T k i))
/-- q is no worse than p, and another -/
def tin (T : zT) (p q : Nat) : Bool := decide (q ≠ p ∧ (thd T p).val ≤ (thd T q).val)
def tnu (T : zT) (p : Nat) : Nat → Nat
  | 0 => 0
  | q + 1 => if tin T p q = true then tnu T p q + 2 ^ q else tnu T p q
theorem tnu_s (T : zT) (p q : Nat) : tnu T p (q + 1) = if q = p then tnu T p q else if (thd T q).val < (thd T p).val then tnu T p q else tnu T p q + 2 ^ q := by
  show (if tin T p q = true then tnu T p q + 2 ^ q else tnu T p q) = _
  unfold tin
  by_cases e1 : q = p
  · simp [e1]
  · by_cases e2 : (thd T q).val < (thd T p).val
    · simp [e1, e2]
    · simp [e1, e2, Nat.not_lt.1 e2]
def tnw (T : zT) (p : Nat) : Nat := tnu T p (tpn T)
theorem tnu_lt (T : zT) (p : Nat) : ∀ q, tnu T p q < 2 ^ q
  | 0 => Nat.zero_lt_one
  | q + 1 => by
    have := tnu_lt T p q
    unfold tnu; rw [Nat.pow_succ]; split <;> omega
theorem tnu_64 (T : zT) (p : Nat) {q : Nat} (h : q ≤ 6) : tnu T p q < 64 := Nat.lt_of_lt_of_le (tnu_lt T p q) (Nat.pow_le_pow_right (by decide) h)
theorem tnw_64 (T : zT) (p : Nat) : tnw T p < 64 := tnu_64 T p (by omega)
/-- the best of them so far: the first of the least hard, or of the hardest -/
def tbt (T : zT) (far : Bool) (a b : Nat) : Bool := if far = true then decide ((thd T b).val < (thd T a).val) else decide ((thd T a).val < (thd T b).val)
def tbe (T : zT) (far : Bool) (p : Nat) : Nat → Option Nat
  | 0 => none
  | q + 1 => if tin T p q = true then (match tbe T far p q with
    | none => some q
    | some f => if tbt T far q f = true then some q else some f) else tbe T far p q
def zfn (o : Option Nat) : Int32 := match o with
  | none => -9
  | some q => nI q
theorem zfn_n : zfn none = -9 := rfl
theorem zfn_s {q : Nat} : zfn (some q) = nI q := rfl
/-- how many of a set; the i-th of them -/
def cnt (m : Nat) : Nat → Nat
  | 0 => 0
  | k + 1 => cnt m k + m / 2 ^ k % 2
theorem cnt_s (m k : Nat) : cnt m (k + 1) = cnt m k + m / 2 ^ k % 2 := rfl
theorem cnt_le (m : Nat) : ∀ k, cnt m k ≤ k
  | 0 => Nat.le_refl _
  | k + 1 => by have := cnt_le m k; unfold cnt; omega
def mbr (m i : Nat) : Nat → Option Nat
  | 0 => none
  | k + 1 => if m / 2 ^ k % 2 = 1 ∧ cnt m k = i then some k else mbr m i k
theorem mbr_s (m i k : Nat) : mbr m i (k + 1) = if m / 2 ^ k % 2 = 1 ∧ cnt m k = i then some k else mbr m i k := rfl
/-- the lot's next; what it tells -/
def lnx (x : Int32) : Int32 := x * 1103515245 + nI 12345
def ldr (x : Int32) : Nat := x.toBitVec.toNat / 65536
theorem ldr_lt (x : Int32) : ldr x < 65536 := by
  unfold ldr; have := x.toBitVec.isLt; omega
theorem ldr_eq (x : Int32) : (x.toUInt32 >>> ((nI 16).toUInt32 &&& Int32.toUInt32 31)).toInt32 = nI (ldr x) := by
  have h := pk_ushr x (nI 16) 16 (by decide +kernel)
  apply Int32.toBitVec_inj.1
  apply BitVec.eq_of_toNat_eq
  rw [h, pk_tn (Nat.lt_trans (ldr_lt x) (by decide))]
  rfl
/-- who finds it hides it: where it lies then, and the lot -/
def thi (T : zT) (law r : Nat) (lot : Int32) : Nat × Int32 :=
  if tnw T r = 0 then (r, lot)
  else if law = 2 then ((mbr (tnw T r) (ldr (lnx lot) % cnt (tnw T r) 8) 8).getD 0, lnx lot)
  else ((tbe T (decide (law = 1)) r (tpn T)).getD 0, lot)
/-- the place in a habit behind the i-th -/
def tnx (T : zT) (k i : Nat) : Nat := if i + 1 < (tln T k).val then i + 1 else 0
theorem tnx_m {T : zT} {k i : Nat} (h : i < (tln T k).val) : (i + 1) % (tln T k).val = tnx T k i := by
  unfold tnx; split
  · exact Nat.mod_eq_of_lt (by assumption)
  · rw [show i + 1 = (tln T k).val by omega, Nat.mod_self]
theorem tnx_lt {T : zT} {k i : Nat} (h : 0 < (tln T k).val) : tnx T k i < (tln T k).val := by
  unfold tnx; split <;> omega
/-- a seeker's walk: whether he finds it at r, and where his habit stops -/
def twk (T : zT) (k r : Nat) : Nat → Nat → Nat → Bool × Nat
  | 0, _, i => (false, i)
  | f + 1, left, i => if left < (thd T (thb T k i)).val then (false, i) else if (thb T k i).val = r then (true, tnx T k i) else twk T k r f (left - (thd T (thb T k i)).val) (tnx T k i)
theorem twk_s (T : zT) (k r f left i : Nat) : twk T k r (f + 1) left i = if left < (thd T (thb T k i)).val then (false, i) else if (thb T k i).val = r then (true, tnx T k i) else twk T k r f (left - (thd T (thb T k i)).val) (tnx T k i) := rfl
def tfi (T : zT) (k r i : Nat) : Bool × Nat := twk T k r ((tmn T k).val + 1) (tmn T k).val i
def pup {α : Type} (f : Nat → α) (k : Nat) (v : α) : Nat → α := fun j => if j = k then v else f j
/-- the first k seekers' week: habits, ring, lot, who found it -/
def tpl (T : zT) (law : Nat) (nx : Nat → Nat) (r : Nat) (lot : Int32) : Nat → (Nat → Nat) × Nat × Int32 × Nat
  | 0 => (nx, r, lot, 0)
  | k + 1 =>
    if (tfi T k (tpl T law nx r lot k).2.1 ((tpl T law nx r lot k).1 k)).1 = true then
      (pup (tpl T law nx r lot k).1 k (tfi T k (tpl T law nx r lot k).2.1 ((tpl T law nx r lot k).1 k)).2, (thi T law (tpl T law nx r lot k).2.1 (tpl T law nx r lot k).2.2.1).1, (thi T law (tpl T law nx r lot k).2.1 (tpl T law nx r lot k).2.2.1).2, (tpl T law nx r lot k).2.2.2 + 2 ^ k)
    else (pup (tpl T law nx r lot k).1 k (tfi T k (tpl T law nx r lot k).2.1 ((tpl T law nx r lot k).1 k)).2, (tpl T law nx r lot k).2.1, (tpl T law nx r lot k).2.2.1, (tpl T law nx r lot k).2.2.2)
theorem pow_half {q n : Nat} (h : q < n) : 2 ^ n / 2 ^ q % 2 = 0 := by
  obtain ⟨j, rfl⟩ : ∃ j, n = q + (j + 1) := ⟨n - q - 1, by omega⟩
  rw [Nat.pow_add, Nat.mul_div_cancel_left _ (Nat.pow_pos (by decide)), Nat.pow_succ]
  omega
theorem bit_add {a q n : Nat} (h : q < n) : (a + 2 ^ n) / 2 ^ q % 2 = a / 2 ^ q % 2 := by
  obtain ⟨j, rfl⟩ : ∃ j, n = q + (j + 1) := ⟨n - q - 1, by omega⟩
  rw [Nat.pow_add, Nat.add_mul_div_left _ _ (Nat.pow_pos (by decide)), Nat.pow_succ]
  omega
theorem bit_top {a n : Nat} (h : a < 2 ^ n) : (a + 2 ^ n) / 2 ^ n % 2 = 1 := by
  rw [Nat.add_div_right _ (Nat.pow_pos (by decide)), Nat.div_eq_of_lt h]
theorem bit_lo {a n : Nat} (h : a < 2 ^ n) : a / 2 ^ n % 2 = 0 := by
  rw [Nat.div_eq_of_lt h]
theorem tnu_bit (T : zT) (p : Nat) {q : Nat} : ∀ n, q < n → tnu T p n / 2 ^ q % 2 = if tin T p q = true then 1 else 0
  | 0, h => absurd h (Nat.not_lt_zero _)
  | n + 1, h => by
    show (if tin T p n = true then tnu T p n + 2 ^ n else tnu T p n) / 2 ^ q % 2 = _
    by_cases e : q = n
    · subst e
      by_cases c : tin T p q = true
      · rw [if_pos c, if_pos c, bit_top (tnu_lt T p q)]
      · rw [if_neg c, if_neg c, bit_lo (tnu_lt T p q)]
    · have ih := tnu_bit T p (q := q) n (by omega)
      by_cases c : tin T p n = true
      · rw [if_pos c, bit_add (by omega), ih]
      · rw [if_neg c, ih]
theorem tbe_n (T : zT) (far : Bool) (p : Nat) : ∀ q, tbe T far p q = none ↔ tnu T p q = 0
  | 0 => by simp [tbe, tnu]
  | q + 1 => by
    have ih := tbe_n T far p q
    have := Nat.pow_pos (n := q) (show 0 < 2 by decide)
    unfold tbe tnu
    by_cases c : tin T p q = true
    · simp only [c, if_true]
      constructor
      · intro h; split at h
        · exact absurd h (by simp)
        · split at h <;> exact absurd h (by simp)
      · intro h; omega
    · simp only [c]; exact ih
theorem tbe_lt (T : zT) (far : Bool) (p : Nat) : ∀ q f, tbe T far p q = some f → f < q ∧ tin T p f = true
  | 0, f, h => by simp [tbe] at h
  | q + 1, f, h => by
    have ih := tbe_lt T far p q
    unfold tbe at h
    by_cases c : tin T p q = true
    · simp only [c, if_true] at h
      split at h
      · simp only [Option.some.injEq] at h; subst h; exact ⟨Nat.lt_succ_self _, c⟩
      · rename_i f' e
        by_cases d : tbt T far q f' = true
        · simp only [d, if_true, Option.some.injEq] at h; subst h; exact ⟨Nat.lt_succ_self _, c⟩
        · simp only [d, Bool.false_eq_true, if_false] at h
          have := ih f (by rw [e]; exact h)
          exact ⟨by omega, this.2⟩
    · simp only [c, Bool.false_eq_true, if_false] at h
      have := ih f h
      exact ⟨by omega, this.2⟩
theorem tbe_s (T : zT) (far : Bool) (p q : Nat) : tbe T far p (q + 1) = if tin T p q = true then (match tbe T far p q with
    | none => some q
    | some f => if tbt T far q f = true then some q else some f) else tbe T far p q := rfl
theorem mbr_e (m i : Nat) : ∀ n, i < cnt m n → ∃ k, mbr m i n = some k ∧ k < n ∧ m / 2 ^ k % 2 = 1
  | 0, h => absurd h (Nat.not_lt_zero _)
  | n + 1, h => by
    rw [cnt_s] at h
    rw [mbr_s]
    by_cases c : m / 2 ^ n % 2 = 1 ∧ cnt m n = i
    · exact ⟨n, if_pos c, Nat.lt_succ_self _, c.1⟩
    · rw [if_neg c]
      obtain ⟨k, h1, h2, h3⟩ := mbr_e m i n (by omega)
      exact ⟨k, h1, by omega, h3⟩
theorem cnt_pos : ∀ m, m < 64 → m ≠ 0 → 0 < cnt m 8 := by decide +kernel
theorem tnw_in {T : zT} {p k : Nat} (h : tnw T p / 2 ^ k % 2 = 1) : k < (tpn T).val ∧ tin T p k = true := by
  have h1 : k < (tpn T).val := by
    refine Nat.lt_of_not_le fun q => ?_
    have : tnw T p < 2 ^ k := Nat.lt_of_lt_of_le (tnu_lt T p _) (Nat.pow_le_pow_right (by decide) q)
    rw [bit_lo this] at h; omega
  refine ⟨h1, ?_⟩
  have e := tnu_bit T p _ h1
  unfold tnw at h
  rw [h] at e
  by_cases c : tin T p k = true
  · exact c
  · rw [if_neg c] at e; omega
theorem thi_m {T : zT} {r : Nat} (lot : Int32) (h : tnw T r ≠ 0) : ∃ k, mbr (tnw T r) (ldr (lnx lot) % cnt (tnw T r) 8) 8 = some k ∧ k < (tpn T).val ∧ tin T r k = true := by
  obtain ⟨k, h1, h2, h3⟩ := mbr_e (tnw T r) (ldr (lnx lot) % cnt (tnw T r) 8) 8 (Nat.mod_lt _ (cnt_pos _ (tnw_64 T r) h))
  exact ⟨k, h1, tnw_in h3⟩
theorem thi_b {T : zT} {r : Nat} (far : Bool) (h : tnw T r ≠ 0) : ∃ k, tbe T far r (tpn T) = some k ∧ k < (tpn T).val ∧ tin T r k = true := by
  cases e : tbe T far r (tpn T) with
  | none => exact absurd ((tbe_n T far r _).1 e) h
  | some k => exact ⟨k, rfl, tbe_lt T far r _ k e⟩
theorem thi_lt {T : zT} {law r : Nat} {lot : Int32} (h : r < (tpn T).val) : (thi T law r lot).1 < (tpn T).val := by
  unfold thi
  by_cases c : tnw T r = 0
  · rw [if_pos c]; exact h
  · rw [if_neg c]
    by_cases c2 : law = 2
    · rw [if_pos c2]
      obtain ⟨k, h1, h2, -⟩ := thi_m lot c
      simp only [h1, Option.getD_some]; exact h2
    · rw [if_neg c2]
      obtain ⟨k, h1, h2, -⟩ := thi_b (decide (law = 1)) c
      simp only [h1, Option.getD_some]; exact h2
/-- the model's memory while weeks are played: habits, ring, lot, finders -/
def zpm (I : zIm) (nx : Nat → Nat) (r : Nat) (lot : Int32) (fd : Int32) : zIm := fun a j => if a = 94 then (if j < 4 then nI (nx j) else I a j) else if a = 87 then (if j = 13 then nI r else if j = 1 then lot else if j = 15 then fd else I a j) else I a j
section ZP
variable {I : zIm} {nx : Nat → Nat} {r : Nat} {lot : Int32} {fd : Int32}
theorem zpm_13 : zpm I nx r lot fd 87 13 = nI r := rfl
theorem zpm_1 : zpm I nx r lot fd 87 1 = lot := rfl
theorem zpm_15 : zpm I nx r lot fd 87 15 = fd := rfl
theorem zpm_94 {k : Nat} (h : k < 4) : zpm I nx r lot fd 94 k = nI (nx k) := if_pos h
theorem zpm_r {a : Nat} (h1 : a ≠ 94) (h2 : a ≠ 87) : zpm I nx r lot fd a = I a := by
  funext j; unfold zpm; rw [if_neg h1, if_neg h2]
theorem zpm_87 {j : Nat} (h1 : j ≠ 13) (h2 : j ≠ 1) (h3 : j ≠ 15) : zpm I nx r lot fd 87 j = I 87 j := by
  unfold zpm; rw [if_neg (by decide), if_pos rfl, if_neg h1, if_neg h2, if_neg h3]
theorem zpm_u13 {r' : Nat} : zup (zpm I nx r lot fd) 87 13 (nI r') = zpm I nx r' lot fd := by
  funext a j; unfold zup zpm
  by_cases h : a = 87 ∧ j = 13
  · rw [if_pos h, h.1, h.2]; rfl
  · rw [if_neg h]
    by_cases h1 : a = 94
    · rw [if_pos h1, if_pos h1]
    · rw [if_neg h1, if_neg h1]
      by_cases h2 : a = 87
      · have h3 : ¬ j = 13 := fun q => h ⟨h2, q⟩
        rw [if_pos h2, if_pos h2, if_neg h3, if_neg h3]
      · rw [if_neg h2, if_neg h2]
theorem zpm_u1 {x : Int32} : zup (zpm I nx r lot fd) 87 1 x = zpm I nx r x fd := by
  funext a j; unfold zup zpm
  by_cases h : a = 87 ∧ j = 1
  · rw [if_pos h, h.1, h.2]; rfl
  · rw [if_neg h]
    by_cases h1 : a = 94
    · rw [if_pos h1, if_pos h1]
    · rw [if_neg h1, if_neg h1]
      by_cases h2 : a = 87
      · have h3 : ¬ j = 1 := fun q => h ⟨h2, q⟩
        rw [if_pos h2, if_pos h2, if_neg h3, if_neg h3]
      · rw [if_neg h2, if_neg h2]
theorem zpm_u15 {x : Int32} : zup (zpm I nx r lot fd) 87 15 x = zpm I nx r lot x := by
  funext a j; unfold zup zpm
  by_cases h : a = 87 ∧ j = 15
  · rw [if_pos h, h.1, h.2]; rfl
  · rw [if_neg h]
    by_cases h1 : a = 94
    · rw [if_pos h1, if_pos h1]
    · rw [if_neg h1, if_neg h1]
      by_cases h2 : a = 87
      · have h3 : ¬ j = 15 := fun q => h ⟨h2, q⟩
        rw [if_pos h2, if_pos h2, if_neg h3, if_neg h3]
      · rw [if_neg h2, if_neg h2]
theorem zpm_u94 {k i : Nat} (hk : k < 4) : zup (zpm I nx r lot fd) 94 k (nI i) = zpm I (pup nx k i) r lot fd := by
  funext a j; unfold zup zpm pup
  by_cases h : a = 94 ∧ j = k
  · rw [if_pos h, h.1, h.2, if_pos rfl, if_pos hk, if_pos rfl]
  · rw [if_neg h]
    by_cases h1 : a = 94
    · have h3 : ¬ j = k := fun q => h ⟨h1, q⟩
      rw [if_pos h1, if_pos h1, if_neg h3]
    · rw [if_neg h1, if_neg h1]
end ZP
theorem pup_s {α : Type} {f : Nat → α} {k : Nat} {v : α} : pup f k v k = v := if_pos rfl
theorem pup_n {α : Type} {f : Nat → α} {k j : Nat} {v : α} (h : j ≠ k) : pup f k v j = f j := if_neg h
theorem pup_2 {α : Type} {f : Nat → α} {k : Nat} {v w : α} : pup (pup f k v) k w = pup f k w := by
  funext j; unfold pup; split <;> rfl
theorem pup_id {α : Type} {f : Nat → α} {k : Nat} : pup f k (f k) = f := by
  funext j; unfold pup; split
  · rename_i h; rw [h]
  · rfl
theorem cnt_add {a n : Nat} : ∀ k, k ≤ n → cnt (a + 2 ^ n) k = cnt a k
  | 0, _ => rfl
  | k + 1, h => by rw [cnt_s, cnt_s, cnt_add k (by omega), bit_add (by omega)]
theorem cnt_up {a n : Nat} (h : a < 2 ^ n) : ∀ k, cnt a (n + k) = cnt a n
  | 0 => rfl
  | k + 1 => by
    rw [show n + (k + 1) = (n + k) + 1 from rfl, cnt_s, cnt_up h k, bit_lo (Nat.lt_of_lt_of_le h (Nat.pow_le_pow_right (by decide) (by omega)))]; rfl
theorem cnt_top {a n m : Nat} (h : a < 2 ^ n) (hm : n ≤ m) : cnt a m = cnt a n := by
  rw [show m = n + (m - n) by omega]; exact cnt_up h _
theorem twk_lt {T : zT} {k r : Nat} (hl : 0 < (tln T k).val) : ∀ f left i, i < (tln T k).val → (twk T k r f left i).2 < (tln T k).val
  | 0, _, i, h => h
  | f + 1, left, i, h => by
    rw [twk_s]
    split
    · exact h
    · split
      · exact tnx_lt hl
      · exact twk_lt hl f _ _ (tnx_lt hl)
theorem tfi_lt {T : zT} {k r i : Nat} (h : i < (tln T k).val) : (tfi T k r i).2 < (tln T k).val := twk_lt (by omega) _ _ _ h
theorem tpl_s (T : zT) (law : Nat) (nx : Nat → Nat) (r : Nat) (lot : Int32) (k : Nat) : tpl T law nx r lot (k + 1) =
    if (tfi T k (tpl T law nx r lot k).2.1 ((tpl T law nx r lot k).1 k)).1 = true then
      (pup (tpl T law nx r lot k).1 k (tfi T k (tpl T law nx r lot k).2.1 ((tpl T law nx r lot k).1 k)).2, (thi T law (tpl T law nx r lot k).2.1 (tpl T law nx r lot k).2.2.1).1, (thi T law (tpl T law nx r lot k).2.1 (tpl T law nx r lot k).2.2.1).2, (tpl T law nx r lot k).2.2.2 + 2 ^ k)
    else (pup (tpl T law nx r lot k).1 k (tfi T k (tpl T law nx r lot k).2.1 ((tpl T law nx r lot k).1 k)).2, (tpl T law nx r lot k).2.1, (tpl T law nx r lot k).2.2.1, (tpl T law nx r lot k).2.2.2) := rfl
/-- habits stop inside -/
def tnk (T : zT) (nx : Nat → Nat) : Prop := ∀ k, k < (tsn T).val → nx k < (tln T k).val
theorem tnk_up {T : zT} {nx : Nat → Nat} {k i : Nat} (h : tnk T nx) (hi : i < (tln T k).val) : tnk T (pup nx k i) := by
  intro j hj
  by_cases e : j = k
  · rw [e, pup_s]; exact hi
  · rw [pup_n e]; exact h j hj
theorem tpl_ok {T : zT} {law : Nat} {nx : Nat → Nat} {r : Nat} {lot : Int32} (hr : r < (tpn T).val) (hn : tnk T nx) : ∀ k, k ≤ (tsn T).val → (tpl T law nx r lot k).2.1 < (tpn T).val ∧ tnk T (tpl T law nx r lot k).1 ∧ (tpl T law nx r lot k).2.2.2 < 2 ^ k
  | 0, _ => ⟨hr, hn, Nat.zero_lt_one⟩
  | k + 1, h => by
    obtain ⟨h1, h2, h3⟩ := tpl_ok hr hn k (by omega)
    have h4 := tfi_lt (r := (tpl T law nx r lot k).2.1) (h2 k (by omega))
    rw [tpl_s, Nat.pow_succ]
    split
    · exact ⟨thi_lt h1, tnk_up h2 h4, show _ + 2 ^ k < _ by omega⟩
    · exact ⟨h1, tnk_up h2 h4, show (tpl T law nx r lot k).2.2.2 < _ by omega⟩
/-- a week of the whole town -/
def tpw (T : zT) (law : Nat) (nx : Nat → Nat) (r : Nat) (lot : Int32) : (Nat → Nat) × Nat × Int32 × Nat := tpl T law nx r lot (tsn T)
theorem zpm_u16 {I : zIm} {nx : Nat → Nat} {r : Nat} {lot fd v : Int32} : zup (zpm I nx r lot fd) 87 16 v = zpm (zup I 87 16 v) nx r lot fd := by
  funext a j; unfold zup zpm
  by_cases h : a = 87 ∧ j = 16
  · rw [if_pos h, h.1, h.2]; rfl
  · rw [if_neg h]
    by_cases h1 : a = 94
    · rw [if_pos h1, if_pos h1]; simp only [if_neg h]
    · rw [if_neg h1, if_neg h1]
      by_cases h2 : a = 87
      · rw [if_pos h2, if_pos h2]; simp only [if_neg h]
      · rw [if_neg h2, if_neg h2]; simp only [if_neg h]
theorem zpm_of {I : zIm} {r : Nat} (h : I 87 13 = nI r) : I = zpm I (fun j => (I 94 j).toBitVec.toNat) r (I 87 1) (I 87 15) := by
  have hs : ∀ x : Int32, nI x.toBitVec.toNat = x := fun x => by
    apply Int32.toBitVec_inj.1
    apply BitVec.eq_of_toNat_eq
    rw [pk_tn x.toBitVec.isLt]
  funext a j; unfold zpm
  by_cases h1 : a = 94
  · rw [if_pos h1, h1]
    split
    · exact (hs _).symm
    · rfl
  · rw [if_neg h1]
    by_cases h2 : a = 87
    · rw [if_pos h2, h2]
      split
      · rename_i e; rw [e, h]
      · split
        · rename_i e; rw [e]
        · split
          · rename_i e; rw [e]
          · rfl
    · rw [if_neg h2]
theorem zpm_fil {I : zIm} {nx : Nat → Nat} {r : Nat} : fil (zup I 87 13 (nI r)) 94 0 (fun k => nI (nx k)) 4 = zpm I nx r (I 87 1) (I 87 15) := by
  funext a j; unfold fil zup zpm
  by_cases h1 : a = 94
  · rw [if_pos h1]
    by_cases h2 : j < 4
    · rw [if_pos ⟨h1, Nat.zero_le _, by omega⟩, if_pos h2, Nat.sub_zero]
    · rw [if_neg (by omega), if_neg (by omega), if_neg h2]
  · rw [if_neg h1, if_neg (by omega)]
    by_cases h2 : a = 87
    · rw [if_pos h2, h2]
      by_cases h3 : j = 13
      · rw [if_pos ⟨rfl, h3⟩, if_pos h3]
      · rw [if_neg (fun q => h3 q.2), if_neg h3]
        split
        · rename_i e; rw [e]
        · split
          · rename_i e; rw [e]
          · rfl
    · rw [if_neg h2, if_neg (fun q => h2 q.1)]
/-- a row of the memory changed as a whole -/
def zrw {α : Type} (I : Nat → Nat → α) (c : Nat) (f : Nat → α) : Nat → Nat → α := fun a => if a = c then f else I a
theorem zrw_s {α : Type} {I : Nat → Nat → α} {c : Nat} {f : Nat → α} : zrw I c f c = f := if_pos rfl
theorem zrw_r {α : Type} {I : Nat → Nat → α} {c a : Nat} {f : Nat → α} (h : a ≠ c) : zrw I c f a = I a := if_neg h
theorem zrw_u {α : Type} {I : Nat → Nat → α} {c k : Nat} {f : Nat → α} {v : α} : zup (zrw I c f) c k v = zrw I c (pup f k v) := by
  funext a j; unfold zup zrw pup
  by_cases h : a = c
  · by_cases h2 : j = k
    · rw [if_pos ⟨h, h2⟩, if_pos h, if_pos h2]
    · rw [if_neg (fun q => h2 q.2), if_pos h, if_pos h, if_neg h2]
  · rw [if_neg (fun q => h q.1), if_neg h, if_neg h]
theorem zrw_i {α : Type} {I : Nat → Nat → α} {c : Nat} : zrw I c (I c) = I := by
  funext a; unfold zrw; split
  · rename_i h; rw [h]
  · rfl
theorem zup_rw {α : Type} {I : Nat → Nat → α} {c k : Nat} {v : α} : zup I c k v = zrw I c (pup (I c) k v) := by
  rw [← zrw_u, zrw_i]
theorem zup_row {α : Type} {I : Nat → Nat → α} {c k : Nat} {v : α} : zup I c k v c = pup (I c) k v := by
  rw [zup_rw, zrw_s]
/-- what the model keeps while weeks are only tried -/
def kp (I I' : zIm) : Prop := (∀ a, a ≠ 87 → a ≠ 91 → a ≠ 90 → a ≠ 94 → a ≠ 95 → a ≠ 96 → I' a = I a) ∧ I' 87 3 = I 87 3
def kq (I I' : zIm) : Prop := kp I I' ∧ I' 91 = I 91 ∧ I' 87 1 = I 87 1
theorem kp_i {I : zIm} : kp I I := ⟨fun _ _ _ _ _ _ _ => rfl, rfl⟩
theorem kq_i {I : zIm} : kq I I := ⟨kp_i, rfl, rfl⟩
theorem kp_t {I I' I'' : zIm} (h : kp I I') (h' : kp I' I'') : kp I I'' := ⟨fun a h1 h2 h3 h4 h5 h6 => (h'.1 a h1 h2 h3 h4 h5 h6).trans (h.1 a h1 h2 h3 h4 h5 h6), h'.2.trans h.2⟩
theorem kq_t {I I' I'' : zIm} (h : kq I I') (h' : kq I' I'') : kq I I'' := ⟨kp_t h.1 h'.1, h'.2.1.trans h.2.1, h'.2.2.trans h.2.2⟩
theorem kp_m {I : zIm} {nx : Nat → Nat} {r : Nat} {lot fd : Int32} : kp I (zpm I nx r lot fd) := ⟨fun _ h1 _ _ h4 _ _ => zpm_r h4 h1, rfl⟩
theorem kq_m {I : zIm} {nx : Nat → Nat} {r : Nat} {fd : Int32} : kq I (zpm I nx r (I 87 1) fd) := ⟨kp_m, zpm_r (by decide) (by decide), rfl⟩
theorem kp_u {I : zIm} {j : Nat} {v : Int32} (h : j ≠ 3) : kp I (zup I 87 j v) := ⟨fun _ h1 _ _ _ _ _ => zup_r h1, zup_k (fun q => h q.symm)⟩
theorem kq_u {I : zIm} {j : Nat} {v : Int32} (h : j ≠ 3) (h1 : j ≠ 1) : kq I (zup I 87 j v) := ⟨kp_u h, zup_r (by decide), zup_k (fun q => h1 q.symm)⟩
/-- weeks till somebody finds it -/
def tli (T : zT) (law : Nat) : Nat → Nat → (Nat → Nat) → Nat → Int32 → Option Nat
  | 0, _, _, _, _ => none
  | f + 1, w, nx, r, lot => if (tpw T law nx r lot).2.2.2 = 0 then tli T law f (w + 1) (tpw T law nx r lot).1 (tpw T law nx r lot).2.1 (tpw T law nx r lot).2.2.1 else some w
theorem tli_s (T : zT) (law f w : Nat) (nx : Nat → Nat) (r : Nat) (lot : Int32) : tli T law (f + 1) w nx r lot = if (tpw T law nx r lot).2.2.2 = 0 then tli T law f (w + 1) (tpw T law nx r lot).1 (tpw T law nx r lot).2.1 (tpw T law nx r lot).2.2.1 else some w := rfl
theorem thi_lot {T : zT} {law r : Nat} {lot : Int32} (h : law ≠ 2) : (thi T law r lot).2 = lot := by
  unfold thi; split
  · rfl
  · rfl
theorem tpl_lot {T : zT} {law : Nat} {nx : Nat → Nat} {r : Nat} {lot : Int32} (h : law ≠ 2) : ∀ k, (tpl T law nx r lot k).2.2.1 = lot
  | 0 => rfl
  | k + 1 => by
    rw [tpl_s]; split
    · exact (thi_lot h).trans (tpl_lot h k)
    · exact tpl_lot h k
theorem tpw_lot {T : zT} {law : Nat} {nx : Nat → Nat} {r : Nat} {lot : Int32} (h : law ≠ 2) : (tpw T law nx r lot).2.2.1 = lot := tpl_lot h _
theorem tpw_ok {T : zT} {law : Nat} {nx : Nat → Nat} {r : Nat} {lot : Int32} (hr : r < (tpn T).val) (hn : tnk T nx) : (tpw T law nx r lot).2.1 < (tpn T).val ∧ tnk T (tpw T law nx r lot).1 ∧ (tpw T law nx r lot).2.2.2 < 2 ^ (tsn T).val := tpl_ok hr hn _ (Nat.le_refl _)
theorem tpw_16 {T : zT} {law : Nat} {nx : Nat → Nat} {r : Nat} {lot : Int32} (hr : r < (tpn T).val) (hn : tnk T nx) : (tpw T law nx r lot).2.2.2 < 16 := Nat.lt_of_lt_of_le (tpw_ok hr hn).2.2 (show 2 ^ (tsn T).val ≤ 2 ^ 4 from Nat.pow_le_pow_right (by decide) (by omega))
theorem cnt4_0 : ∀ m, m < 16 → (cnt m 4 = 0 ↔ m = 0) := by decide +kernel
/-- weeks tried one after another -/
def tit (T : zT) (law : Nat) (nx : Nat → Nat) (r : Nat) (lot : Int32) : Nat → (Nat → Nat) × Nat × Int32 × Nat
  | 0 => (nx, r, lot, 0)
  | w + 1 => tpw T law (tit T law nx r lot w).1 (tit T law nx r lot w).2.1 (tit T law nx r lot w).2.2.1
theorem tit_s (T : zT) (law : Nat) (nx : Nat → Nat) (r : Nat) (lot : Int32) (w : Nat) : tit T law nx r lot (w + 1) = tpw T law (tit T law nx r lot w).1 (tit T law nx r lot w).2.1 (tit T law nx r lot w).2.2.1 := rfl
theorem tit_ok {T : zT} {law : Nat} {nx : Nat → Nat} {r : Nat} {lot : Int32} (hr : r < (tpn T).val) (hn : tnk T nx) : ∀ w, (tit T law nx r lot w).2.1 < (tpn T).val ∧ tnk T (tit T law nx r lot w).1 ∧ (tit T law nx r lot w).2.2.2 < 16
  | 0 => ⟨hr, hn, show 0 < 16 by decide⟩
  | w + 1 => by
    obtain ⟨h1, h2, h3⟩ := tit_ok (law := law) (lot := lot) hr hn w
    rw [tit_s]
    exact ⟨(tpw_ok h1 h2).1, (tpw_ok h1 h2).2.1, tpw_16 h1 h2⟩
/-- LIES, 51 for never; LONGEST -/
def tlw51 (T : zT) (nx : Nat → Nat) (lot : Int32) (p : Nat) : Nat := (tli T 0 50 1 nx p lot).getD 51
def tlo (W : Nat → Nat) : Nat → Option Nat × Nat
  | 0 => (none, 0)
  | p + 1 => if (tlo W p).2 < W p then (some p, W p) else tlo W p
theorem tlo_s (W : Nat → Nat) (p : Nat) : tlo W (p + 1) = if (tlo W p).2 < W p then (some p, W p) else tlo W p := rfl
theorem tli_le {T : zT} {law : Nat} : ∀ f w nx r lot x, tli T law f w nx r lot = some x → w ≤ x ∧ x < w + f
  | 0, w, nx, r, lot, x, h => absurd h (by simp [tli])
  | f + 1, w, nx, r, lot, x, h => by
    rw [tli_s T law f] at h
    split at h
    · have := tli_le f _ _ _ _ _ h; omega
    · simp only [Option.some.injEq] at h; omega
theorem tlw51_le {T : zT} {nx : Nat → Nat} {lot : Int32} {p : Nat} : 0 < tlw51 T nx lot p ∧ tlw51 T nx lot p ≤ 51 := by
  unfold tlw51
  cases h : tli T 0 50 1 nx p lot with
  | none => exact ⟨by decide, Nat.le_refl _⟩
  | some x => have := tli_le _ _ _ _ _ _ h; exact ⟨by simp only [Option.getD_some]; omega, by simp only [Option.getD_some]; omega⟩
theorem tlo_le {W : Nat → Nat} (h : ∀ p, W p ≤ 51) : ∀ p, (tlo W p).2 ≤ 51
  | 0 => Nat.zero_le _
  | p + 1 => by
    rw [tlo_s]; split
    · exact h p
    · exact tlo_le h p
theorem zrw_2 {α : Type} {I : Nat → Nat → α} {c : Nat} {f g : Nat → α} : zrw (zrw I c f) c g = zrw I c g := by
  funext a; unfold zrw; split <;> rfl
theorem thi_li {T : zT} {law r : Nat} (l l' : Int32) (h : law ≠ 2) : (thi T law r l).1 = (thi T law r l').1 := by
  unfold thi
  by_cases c : tnw T r = 0
  · rw [if_pos c, if_pos c]
  · rw [if_neg c, if_neg c, if_neg h, if_neg h]
theorem tpl_li {T : zT} {law : Nat} {nx : Nat → Nat} {r : Nat} (l l' : Int32) (h : law ≠ 2) : ∀ k, (tpl T law nx r l k).1 = (tpl T law nx r l' k).1 ∧ (tpl T law nx r l k).2.1 = (tpl T law nx r l' k).2.1 ∧ (tpl T law nx r l k).2.2.2 = (tpl T law nx r l' k).2.2.2
  | 0 => ⟨rfl, rfl, rfl⟩
  | k + 1 => by
    obtain ⟨h1, h2, h3⟩ := tpl_li l l' h k
    rw [tpl_s, tpl_s, h1, h2, h3]
    split
    · exact ⟨rfl, thi_li _ _ h, rfl⟩
    · exact ⟨rfl, rfl, rfl⟩
theorem tit_li {T : zT} {law : Nat} {nx : Nat → Nat} {r : Nat} (l l' : Int32) (h : law ≠ 2) : ∀ w, (tit T law nx r l w).1 = (tit T law nx r l' w).1 ∧ (tit T law nx r l w).2.1 = (tit T law nx r l' w).2.1 ∧ (tit T law nx r l w).2.2.2 = (tit T law nx r l' w).2.2.2
  | 0 => ⟨rfl, rfl, rfl⟩
  | w + 1 => by
    obtain ⟨h1, h2, -⟩ := tit_li l l' h w
    rw [tit_s, tit_s, h1, h2]
    exact tpl_li _ _ h _
theorem tit_lot {T : zT} {law : Nat} {nx : Nat → Nat} {r : Nat} {l : Int32} (h : law ≠ 2) : ∀ w, (tit T law nx r l w).2.2.1 = l
  | 0 => rfl
  | w + 1 => by rw [tit_s, tpw_lot h, tit_lot h w]
