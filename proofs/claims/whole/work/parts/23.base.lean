/-! METHODS: what each does to the memory. First: rows of numbers, of memory, of loops -/
theorem tL_some {v : Value} {r : List Value} : (some v).toList ++ r = v :: r := rfl
theorem tL_none {r : List Value} : (none : Option Value).toList ++ r = r := rfl
theorem zeq_t {a : Prop} (h : a) : a = True := eq_true h
/-- a count goes down to its end -/
theorem z_down {G : Nat → Prop} (n : Nat) (hn : G n) (hs : ∀ i, i < n → G (i + 1) → G i) : ∀ i, i ≤ n → G i := by
  intro i hi
  obtain ⟨k, rfl⟩ : ∃ k, n = i + k := ⟨n - i, by omega⟩
  clear hi
  induction k generalizing i with
  | zero => exact hn
  | succ k ih => exact hs i (by omega) (ih (i + 1) (by rw [show i + 1 + k = i + (k + 1) by omega]; exact hn) (fun j hj => hs j (by omega)))
theorem z_iter {F : Nat → Prop} (n : Nat) (hs : ∀ i, i < n → F i = F (i + 1)) : ∀ i, i ≤ n → F i = F n :=
  z_down (G := fun i => F i = F n) n rfl (fun i hi h => (hs i hi).trans h)
theorem zup_2 {α : Type} {f : Nat → Nat → α} {c k : Nat} {v w : α} : zup (zup f c k v) c k w = zup f c k w := by
  funext a j; unfold zup; split <;> rfl
theorem zup_id {α : Type} {f : Nat → Nat → α} {c k : Nat} {v : α} (h : f c k = v) : zup f c k v = f := by
  funext a j; unfold zup; split
  · rename_i q; rw [q.1, q.2, h]
  · rfl
theorem b_tst : ∀ m, m < 64 → ∀ q, q < 8 → (nI m >>> (nI q &&& 31)) &&& nI 1 = nI (m / 2 ^ q % 2) := by decide +kernel
theorem b_or : ∀ q, q < 6 → ∀ m, m < 2 ^ q → nI m ||| (nI 1 <<< (nI q &&& 31)) = nI (m + 2 ^ q) := by decide +kernel
theorem b_or0 {m : Nat} (h : m < 2 ^ 31) : nI m ||| nI 0 = nI m := by
  rw [nI_0]; exact Int32.or_zero
theorem i_le1 {v : Int32} {n : Nat} (hn : n < 2 ^ 30) (h : nI 0 ≤ v) : v ≤ nI n - nI 1 ↔ v < nI n := by
  obtain ⟨j, hj, rfl⟩ := nI_of (x := v) (fun q => by rw [nI_0] at h; exact Int32.lt_irrefl (Int32.lt_of_le_of_lt h q))
  cases n with
  | zero =>
    have e1 : nI 0 - nI 1 = -1 := by decide +kernel
    rw [e1]
    constructor
    · intro q
      have h1 : nI j ≤ -1 := q
      rw [Int32.le_iff_toInt_le, nI_toInt hj] at h1
      have : (-1 : Int32).toInt = -1 := by decide +kernel
      omega
    · intro q; rw [nI_ltI hj (by omega)] at q; omega
  | succ n =>
    rw [pk_sub (by omega), nI_leI hj (by omega), nI_ltI hj (by omega)]; omega
/-- a number is one of n, or it is not -/
theorem i_in (v : Int32) (n : Nat) (hn : n < 2 ^ 30) : (∃ j, j < n ∧ v = nI j) ∨ ((nI 0 ≤ v ∧ v ≤ nI n - nI 1) = False ∧ (nI 0 ≤ v ∧ v < nI n) = False) := by
  by_cases h : nI 0 ≤ v
  · by_cases h1 : v < nI n
    · have h0 : ¬ v < 0 := fun q => by rw [nI_0] at h; exact Int32.lt_irrefl (Int32.lt_of_le_of_lt h q)
      obtain ⟨j, hj, rfl⟩ := nI_of h0
      exact Or.inl ⟨j, (nI_ltI hj (by omega)).1 h1, rfl⟩
    · exact Or.inr ⟨eq_false (fun q => h1 ((i_le1 hn h).1 q.2)), eq_false (fun q => h1 q.2)⟩
  · exact Or.inr ⟨eq_false (fun q => h q.1), eq_false (fun q => h q.1)⟩
theorem i_inT {j n : Nat} (hn : n < 2 ^ 30) (h : j < n) : (nI 0 ≤ nI j ∧ nI j ≤ nI n - nI 1) = True := eq_true ⟨(nI_leI (by omega) (by omega)).2 (by omega), (i_le1 hn ((nI_leI (by omega) (by omega)).2 (by omega))).2 ((nI_ltI (by omega) (by omega)).2 h)⟩
theorem i_inT2 {j n : Nat} (hn : n < 2 ^ 30) (h : j < n) : (nI 0 ≤ nI j ∧ nI j < nI n) = True := eq_true ⟨(nI_leI (by omega) (by omega)).2 (by omega), (nI_ltI (by omega) (by omega)).2 h⟩
theorem zup_r {α : Type} {f : Nat → Nat → α} {c k a : Nat} {v : α} (h : a ≠ c) : zup f c k v a = f a := by funext j; exact if_neg (fun q => h q.1)
theorem zk_i {x : Int32} : zk (some (.int x)) = some (.int x) := rfl
theorem zk_r {x : Nat} : zk (some (.ref x)) = some (.ref x) := rfl
theorem zk_a {x : Nat} : zk (some (.retAddr x)) = some (.retAddr x) := rfl
theorem zk_l {x : Int64} : zk (some (.long x)) = none := rfl
theorem zk_n : zk none = none := rfl
theorem nI_les {j n : Nat} (hj : j < 2 ^ 31) (h : n < 2 ^ 30) : nI j ≤ nI n - nI 1 ↔ j < n := by
  rw [Int32.le_iff_toInt_le, nI_toInt hj, pk_sub_toInt (a := n) (b := 1) h (by decide)]; omega
theorem zif_t {a b : Prop} : (if True then a else b) = a := if_pos trivial
theorem zif_f {a b : Prop} : (if False then a else b) = b := if_neg id
theorem zif_ti {a b : Int32} : (if True then a else b) = a := if_pos trivial
theorem zif_fi {a b : Int32} : (if False then a else b) = b := if_neg id
theorem zif_tl {a b : Int64} : (if True then a else b) = a := if_pos trivial
theorem zif_fl {a b : Int64} : (if False then a else b) = b := if_neg id
/-- the rows that every walk wants -/
def zZ := And.intro or_true (And.intro true_or (And.intro @nI_les (And.intro @tL_some (And.intro @tL_none (And.intro @zk_i (And.intro @zk_r (And.intro @zk_l (And.intro @zk_n (And.intro @vp_in_nI (And.intro @nI_clamp (And.intro @nI_add (And.intro @nI_leI (And.intro @nI_ltI (And.intro @nI_eq (And.intro @zup_s (And.intro @pk_mul (And.intro true_and (And.intro znw_0 (And.intro znw_1 (And.intro @zk_a (And.intro @zif_t (And.intro @zif_f (And.intro @zif_ti (And.intro @zif_fi (And.intro @zif_tl (And.intro @zif_fl (And.intro not_true_eq_false (And.intro not_false_eq_true (And.intro true_and (And.intro and_true (And.intro false_and and_false)))))))))))))))))))))))))))))))
theorem nI_m9 {n : Nat} (h : n < 2 ^ 31) : (nI n = -9) = False := by
  refine eq_false fun q => ?_
  have := congrArg Int32.toInt q
  rw [nI_toInt h, show (-9 : Int32).toInt = -9 by decide +kernel] at this
  omega
theorem m9_le : (nI 0 ≤ (-9 : Int32)) = False := by decide +kernel
theorem m9_lt : ((-9 : Int32) < nI 0) = True := by decide +kernel
/-! numbers that came from the script -/
theorem v_ltc {v : Int32} {c : Nat} (h : c < 2 ^ 31) : v < nI c ↔ v.toInt < (c : Int) := by rw [Int32.lt_iff_toInt_lt, nI_toInt h]
theorem v_cgt {v : Int32} {c : Nat} (h : c < 2 ^ 31) : nI c < v ↔ (c : Int) < v.toInt := by rw [Int32.lt_iff_toInt_lt, nI_toInt h]
theorem v_lec {v : Int32} {c : Nat} (h : c < 2 ^ 31) : v ≤ nI c ↔ v.toInt ≤ (c : Int) := by rw [Int32.le_iff_toInt_le, nI_toInt h]
theorem v_cle {v : Int32} {c : Nat} (h : c < 2 ^ 31) : nI c ≤ v ↔ (c : Int) ≤ v.toInt := by rw [Int32.le_iff_toInt_le, nI_toInt h]
theorem v_eqc {v : Int32} {c : Nat} (h : c < 2 ^ 31) : v = nI c ↔ v.toInt = (c : Int) := by rw [← Int32.toInt_inj, nI_toInt h]
theorem s1_toInt {n : Nat} (h : n < 2 ^ 30) : (nI n - nI 1).toInt = (n : Int) - 1 := pk_sub_toInt (a := n) (b := 1) h (by decide)
theorem v_les {v : Int32} {n : Nat} (h : n < 2 ^ 30) : v ≤ nI n - nI 1 ↔ v.toInt < (n : Int) := by
  rw [Int32.le_iff_toInt_le, s1_toInt h]; omega
def zV3 := And.intro @nI_toInt (And.intro @v_ltc (And.intro @v_cgt (And.intro @v_lec (And.intro @v_cle (And.intro @v_eqc (@v_les))))))
theorem v_of {v : Int32} {n : Nat} (hn : n ≤ 2 ^ 31) (h : 0 ≤ v.toInt ∧ v.toInt < (n : Int)) : ∃ j, j < n ∧ v = nI j := by
  refine ⟨v.toInt.toNat, by omega, ?_⟩
  rw [← Int32.toInt_inj, nI_toInt (by omega)]; omega
/-! a stretch of a row filled -/
def fil {α : Type} (f : Nat → Nat → α) (c lo : Nat) (g : Nat → α) (n : Nat) : Nat → Nat → α := fun a j => if a = c ∧ lo ≤ j ∧ j < lo + n then g (j - lo) else f a j
section ZFL
variable {α : Type} {f : Nat → Nat → α} {c lo n : Nat} {g : Nat → α}
theorem fil_0 : fil f c lo g 0 = f := by
  funext a j; unfold fil; rw [if_neg (by omega)]
theorem fil_s : zup (fil f c lo g n) c (lo + n) (g n) = fil f c lo g (n + 1) := by
  funext a j; unfold zup fil
  by_cases h : a = c ∧ j = lo + n
  · obtain ⟨rfl, rfl⟩ := h
    rw [if_pos ⟨rfl, rfl⟩, if_pos ⟨rfl, by omega, by omega⟩, show lo + n - lo = n by omega]
  · rw [if_neg h]
    by_cases h2 : a = c ∧ lo ≤ j ∧ j < lo + n
    · rw [if_pos h2, if_pos ⟨h2.1, h2.2.1, by omega⟩]
    · rw [if_neg h2, if_neg]
      intro q
      by_cases e : j = lo + n
      · exact h ⟨q.1, e⟩
      · exact h2 ⟨q.1, q.2.1, by omega⟩
theorem fil_s0 : zup (fil f c 0 g n) c n (g n) = fil f c 0 g (n + 1) := by
  have := @fil_s α f c 0 n g
  rwa [Nat.zero_add] at this
theorem fil_r {a : Nat} (h : a ≠ c) : fil f c lo g n a = f a := by
  funext j; exact if_neg (fun q => h q.1)
theorem fil_i {j : Nat} (h : j < n) : fil f c lo g n c (lo + j) = g j := by
  unfold fil; rw [if_pos ⟨rfl, by omega, by omega⟩, show lo + j - lo = j by omega]
theorem fil_i0 {j : Nat} (h : j < n) : fil f c 0 g n c j = g j := by
  unfold fil; rw [if_pos ⟨rfl, by omega, by omega⟩, Nat.sub_zero]
theorem fil_o {j : Nat} (h : j < lo ∨ lo + n ≤ j) : fil f c lo g n c j = f c j := by
  unfold fil; rw [if_neg (by omega)]
end ZFL
theorem zup_sw {α : Type} {f : Nat → Nat → α} {c k c' k' : Nat} {v v' w : α} (h : c ≠ c') : zup (zup (zup f c k v) c' k' w) c k v' = zup (zup f c' k' w) c k v' := by
  funext a j; unfold zup
  by_cases h1 : a = c ∧ j = k
  · rw [if_pos h1, if_pos h1]
  · rw [if_neg h1, if_neg h1]
    by_cases h2 : a = c' ∧ j = k'
    · rw [if_pos h2, if_neg h1]
    · rw [if_neg h2, if_neg h1]
theorem zup_cm {α : Type} {f : Nat → Nat → α} {c k c' k' : Nat} {v w : α} (h : c ≠ c' ∨ k ≠ k') : zup (zup f c k v) c' k' w = zup (zup f c' k' w) c k v := by
  funext a j; unfold zup
  by_cases h1 : a = c ∧ j = k
  · rw [if_pos h1, if_neg (fun q => by omega), if_pos h1]
  · rw [if_neg h1, if_neg h1]
theorem pk_rm {v c : Nat} : nI v - nI (v / c * c) = nI (v % c) := by
  have h := Nat.div_add_mod v c
  rw [pk_sub (Nat.div_mul_le_self v c)]
  congr 1
  rw [Nat.mul_comm] at h; omega
