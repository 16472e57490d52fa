/-! ONE INSTRUCTION AS AN EQUATION (for simp): frames that make nothing -/
def zq (d : Nat) (mm : zM) (Q : zPo) (pc : Nat) (ls : zLo) (st : List Value) (σ : zSh) (ρ : zRf) (I : zIm) (L : zLm) : Prop := zR none (zW d) mm Q pc ls st 0 0 σ ρ I L
theorem zj_at {pc : Nat} {off : Int} {t : Nat} {K : Nat → Prop} (h : (pc : Int) + off = (t : Int)) : zj pc off K = K t := by
  unfold zj; rw [h]
section ZO
variable {d : Nat} {mm : zM} {Q : zPo} {pc : Nat} {ls ls' : zLo} {st : List Value} {σ : zSh} {ρ : zRf} {I : zIm} {L : zLm}
theorem oi_iconst {k : Int} {v : Int32} (hd : decode mm.2.1 pc = .ok (.iconst k, 1)) (hv : Int32.ofInt k = v) : zq d mm Q pc ls st σ ρ I L = zq d mm Q (pc + 1) ls (.int v :: st) σ ρ I L := by
  unfold zq; rw [zR_op hd, ← hv]; show (1 = 1 ∧ _) = _; rw [eq_self, true_and]
theorem oi_bipush {k : Int} {v : Int32} (hd : decode mm.2.1 pc = .ok (.bipush k, 2)) (hv : (Int8.ofInt k).toInt32 = v) : zq d mm Q pc ls st σ ρ I L = zq d mm Q (pc + 2) ls (.int v :: st) σ ρ I L := by
  unfold zq; rw [zR_op hd, ← hv]; show (2 = 2 ∧ _) = _; rw [eq_self, true_and]
theorem oi_sipush {k : Int} {v : Int32} (hd : decode mm.2.1 pc = .ok (.sipush k, 3)) (hv : (Int16.ofInt k).toInt32 = v) : zq d mm Q pc ls st σ ρ I L = zq d mm Q (pc + 3) ls (.int v :: st) σ ρ I L := by
  unfold zq; rw [zR_op hd, ← hv]; show (3 = 3 ∧ _) = _; rw [eq_self, true_and]
theorem oi_lconst {k : Fin 2} {v : Int64} (hd : decode mm.2.1 pc = .ok (.lconst k, 1)) (hv : Int64.ofNat (k : Nat) = v) : zq d mm Q pc ls st σ ρ I L = zq d mm Q (pc + 1) ls (.long v :: st) σ ρ I L := by
  unfold zq; rw [zR_op hd, ← hv]; show (1 = 1 ∧ _) = _; rw [eq_self, true_and]
theorem oi_ldc {i : Nat} {v : Int32} (hd : decode mm.2.1 pc = .ok (.ldc i, 2)) (hk : zK mm.2.2.2.2.1 i = some (.int v)) : zq d mm Q pc ls st σ ρ I L = zq d mm Q (pc + 2) ls (.int v :: st) σ ρ I L := by
  unfold zq; rw [zR_op hd]; show (2 = 2 ∧ zkons _ _ _) = _; unfold zkons; rw [hk, eq_self, true_and]
theorem oi_ldcs {i a : Nat} (hd : decode mm.2.1 pc = .ok (.ldc i, 2)) (hk : zK mm.2.2.2.2.1 i = some (.ref a)) : zq d mm Q pc ls st σ ρ I L = zq d mm Q (pc + 2) ls (.ref a :: st) σ ρ I L := by
  unfold zq; rw [zR_op hd]; show (2 = 2 ∧ zkons _ _ _) = _; unfold zkons; rw [hk, eq_self, true_and]
theorem oi_ldc_w {i : Nat} {v : Int32} (hd : decode mm.2.1 pc = .ok (.ldc_w i, 3)) (hk : zK mm.2.2.2.2.1 i = some (.int v)) : zq d mm Q pc ls st σ ρ I L = zq d mm Q (pc + 3) ls (.int v :: st) σ ρ I L := by
  unfold zq; rw [zR_op hd]; show (3 = 3 ∧ zkons _ _ _) = _; unfold zkons; rw [hk, eq_self, true_and]
theorem oi_ldc2_w {i : Nat} {v : Int64} (hd : decode mm.2.1 pc = .ok (.ldc2_w i, 3)) (hk : zK mm.2.2.2.2.1 i = some (.long v)) : zq d mm Q pc ls st σ ρ I L = zq d mm Q (pc + 3) ls (.long v :: st) σ ρ I L := by
  unfold zq; rw [zR_op hd]; show (3 = 3 ∧ zkons _ _ _) = _; unfold zkons; rw [hk, eq_self, true_and]
theorem oi_iload {i : Nat} {x : Int32} (hd : decode mm.2.1 pc = .ok (.iload i, 2)) (hl : zlg ls i = some (.int x)) : zq d mm Q pc ls st σ ρ I L = zq d mm Q (pc + 2) ls (.int x :: st) σ ρ I L := by
  unfold zq; rw [zR_op hd]; unfold zstp; simp only [hl, true_and]
theorem oi_iload_n {i : Fin 4} {x : Int32} (hd : decode mm.2.1 pc = .ok (.iload_n i, 1)) (hl : zlg ls i = some (.int x)) : zq d mm Q pc ls st σ ρ I L = zq d mm Q (pc + 1) ls (.int x :: st) σ ρ I L := by
  unfold zq; rw [zR_op hd]; unfold zstp; simp only [hl, true_and]
theorem oi_lload {i : Nat} {x : Int64} (hd : decode mm.2.1 pc = .ok (.lload i, 2)) (hl : zlg ls i = some (.long x)) : zq d mm Q pc ls st σ ρ I L = zq d mm Q (pc + 2) ls (.long x :: st) σ ρ I L := by
  unfold zq; rw [zR_op hd]; unfold zstp; simp only [hl, true_and]
theorem oi_lload_n {i : Fin 4} {x : Int64} (hd : decode mm.2.1 pc = .ok (.lload_n i, 1)) (hl : zlg ls i = some (.long x)) : zq d mm Q pc ls st σ ρ I L = zq d mm Q (pc + 1) ls (.long x :: st) σ ρ I L := by
  unfold zq; rw [zR_op hd]; unfold zstp; simp only [hl, true_and]
theorem oi_aload {i x : Nat} (hd : decode mm.2.1 pc = .ok (.aload i, 2)) (hl : zlg ls i = some (.ref x)) : zq d mm Q pc ls st σ ρ I L = zq d mm Q (pc + 2) ls (.ref x :: st) σ ρ I L := by
  unfold zq; rw [zR_op hd]; unfold zstp; simp only [hl, true_and]
theorem oi_aload_n {i : Fin 4} {x : Nat} (hd : decode mm.2.1 pc = .ok (.aload_n i, 1)) (hl : zlg ls i = some (.ref x)) : zq d mm Q pc ls st σ ρ I L = zq d mm Q (pc + 1) ls (.ref x :: st) σ ρ I L := by
  unfold zq; rw [zR_op hd]; unfold zstp; simp only [hl, true_and]
theorem oi_istore {i : Nat} {x : Int32} (hd : decode mm.2.1 pc = .ok (.istore i, 2)) (hi : i < ls.length) (hs : zs1 ls i (.int x) = ls') : zq d mm Q pc ls (.int x :: st) σ ρ I L = zq d mm Q (pc + 2) ls' st σ ρ I L := by
  unfold zq; rw [zR_op hd, ← hs]; unfold zstp z1; simp only [hi, true_and]
theorem oi_istore_n {i : Fin 4} {x : Int32} (hd : decode mm.2.1 pc = .ok (.istore_n i, 1)) (hi : (i : Nat) < ls.length) (hs : zs1 ls i (.int x) = ls') : zq d mm Q pc ls (.int x :: st) σ ρ I L = zq d mm Q (pc + 1) ls' st σ ρ I L := by
  unfold zq; rw [zR_op hd, ← hs]; unfold zstp z1; simp only [hi, true_and]
theorem oi_lstore {i : Nat} {x : Int64} (hd : decode mm.2.1 pc = .ok (.lstore i, 2)) (hi : i + 1 < ls.length) (hs : zs2 ls i (.long x) = ls') : zq d mm Q pc ls (.long x :: st) σ ρ I L = zq d mm Q (pc + 2) ls' st σ ρ I L := by
  unfold zq; rw [zR_op hd, ← hs]; unfold zstp z1l; simp only [hi, true_and]
theorem oi_lstore_n {i : Fin 4} {x : Int64} (hd : decode mm.2.1 pc = .ok (.lstore_n i, 1)) (hi : (i : Nat) + 1 < ls.length) (hs : zs2 ls i (.long x) = ls') : zq d mm Q pc ls (.long x :: st) σ ρ I L = zq d mm Q (pc + 1) ls' st σ ρ I L := by
  unfold zq; rw [zR_op hd, ← hs]; unfold zstp z1l; simp only [hi, true_and]
theorem oi_astore {i x : Nat} (hd : decode mm.2.1 pc = .ok (.astore i, 2)) (hi : i < ls.length) (hs : zs1 ls i (.ref x) = ls') : zq d mm Q pc ls (.ref x :: st) σ ρ I L = zq d mm Q (pc + 2) ls' st σ ρ I L := by
  unfold zq; rw [zR_op hd, ← hs]; unfold zstp z1r; simp only [hi, true_and]
theorem oi_astore_n {i : Fin 4} {x : Nat} (hd : decode mm.2.1 pc = .ok (.astore_n i, 1)) (hi : (i : Nat) < ls.length) (hs : zs1 ls i (.ref x) = ls') : zq d mm Q pc ls (.ref x :: st) σ ρ I L = zq d mm Q (pc + 1) ls' st σ ρ I L := by
  unfold zq; rw [zR_op hd, ← hs]; unfold zstp z1r; simp only [hi, true_and]
theorem oi_iinc {i : Nat} {k : Int} {x v : Int32} (hd : decode mm.2.1 pc = .ok (.iinc i k, 3)) (hl : zlg ls i = some (.int x)) (hv : Int32.ofInt k = v) (hs : zs1 ls i (.int (x + v)) = ls') : zq d mm Q pc ls st σ ρ I L = zq d mm Q (pc + 3) ls' st σ ρ I L := by
  unfold zq; rw [zR_op hd, ← hs, ← hv]; unfold zstp; simp only [hl, true_and]
theorem oi_iadd {x y : Int32} (hd : decode mm.2.1 pc = .ok (.iadd, 1)) : zq d mm Q pc ls (.int y :: .int x :: st) σ ρ I L = zq d mm Q (pc + 1) ls (.int (x + y) :: st) σ ρ I L := by
  unfold zq; rw [zR_op hd]; unfold zstp z2; simp only [true_and]
theorem oi_isub {x y : Int32} (hd : decode mm.2.1 pc = .ok (.isub, 1)) : zq d mm Q pc ls (.int y :: .int x :: st) σ ρ I L = zq d mm Q (pc + 1) ls (.int (x - y) :: st) σ ρ I L := by
  unfold zq; rw [zR_op hd]; unfold zstp z2; simp only [true_and]
theorem oi_imul {x y : Int32} (hd : decode mm.2.1 pc = .ok (.imul, 1)) : zq d mm Q pc ls (.int y :: .int x :: st) σ ρ I L = zq d mm Q (pc + 1) ls (.int (x * y) :: st) σ ρ I L := by
  unfold zq; rw [zR_op hd]; unfold zstp z2; simp only [true_and]
theorem oi_iand {x y : Int32} (hd : decode mm.2.1 pc = .ok (.iand, 1)) : zq d mm Q pc ls (.int y :: .int x :: st) σ ρ I L = zq d mm Q (pc + 1) ls (.int (x &&& y) :: st) σ ρ I L := by
  unfold zq; rw [zR_op hd]; unfold zstp z2; simp only [true_and]
theorem oi_ior {x y : Int32} (hd : decode mm.2.1 pc = .ok (.ior, 1)) : zq d mm Q pc ls (.int y :: .int x :: st) σ ρ I L = zq d mm Q (pc + 1) ls (.int (x ||| y) :: st) σ ρ I L := by
  unfold zq; rw [zR_op hd]; unfold zstp z2; simp only [true_and]
theorem oi_ishl {x y : Int32} (hd : decode mm.2.1 pc = .ok (.ishl, 1)) : zq d mm Q pc ls (.int y :: .int x :: st) σ ρ I L = zq d mm Q (pc + 1) ls (.int (x <<< (y &&& 31)) :: st) σ ρ I L := by
  unfold zq; rw [zR_op hd]; unfold zstp z2; simp only [true_and]
theorem oi_ishr {x y : Int32} (hd : decode mm.2.1 pc = .ok (.ishr, 1)) : zq d mm Q pc ls (.int y :: .int x :: st) σ ρ I L = zq d mm Q (pc + 1) ls (.int (x >>> (y &&& 31)) :: st) σ ρ I L := by
  unfold zq; rw [zR_op hd]; unfold zstp z2; simp only [true_and]
theorem oi_iushr {x y : Int32} (hd : decode mm.2.1 pc = .ok (.iushr, 1)) : zq d mm Q pc ls (.int y :: .int x :: st) σ ρ I L = zq d mm Q (pc + 1) ls (.int (x.toUInt32 >>> (y.toUInt32 &&& Int32.toUInt32 31)).toInt32 :: st) σ ρ I L := by
  unfold zq; rw [zR_op hd]; unfold zstp z2; simp only [true_and]
theorem oi_idiv {x y : Int32} (hd : decode mm.2.1 pc = .ok (.idiv, 1)) : zq d mm Q pc ls (.int y :: .int x :: st) σ ρ I L = (¬ y = 0 ∧ zq d mm Q (pc + 1) ls (.int (x / y) :: st) σ ρ I L) := by
  unfold zq; rw [zR_op hd]; unfold zstp z2; simp only [true_and]
theorem oi_irem {x y : Int32} (hd : decode mm.2.1 pc = .ok (.irem, 1)) : zq d mm Q pc ls (.int y :: .int x :: st) σ ρ I L = (¬ y = 0 ∧ zq d mm Q (pc + 1) ls (.int (x - x / y * y) :: st) σ ρ I L) := by
  unfold zq; rw [zR_op hd]; unfold zstp z2; simp only [true_and]
theorem oi_ladd {x y : Int64} (hd : decode mm.2.1 pc = .ok (.ladd, 1)) : zq d mm Q pc ls (.long y :: .long x :: st) σ ρ I L = zq d mm Q (pc + 1) ls (.long (x + y) :: st) σ ρ I L := by
  unfold zq; rw [zR_op hd]; unfold zstp z2l; simp only [true_and]
theorem oi_lsub {x y : Int64} (hd : decode mm.2.1 pc = .ok (.lsub, 1)) : zq d mm Q pc ls (.long y :: .long x :: st) σ ρ I L = zq d mm Q (pc + 1) ls (.long (x - y) :: st) σ ρ I L := by
  unfold zq; rw [zR_op hd]; unfold zstp z2l; simp only [true_and]
theorem oi_lmul {x y : Int64} (hd : decode mm.2.1 pc = .ok (.lmul, 1)) : zq d mm Q pc ls (.long y :: .long x :: st) σ ρ I L = zq d mm Q (pc + 1) ls (.long (x * y) :: st) σ ρ I L := by
  unfold zq; rw [zR_op hd]; unfold zstp z2l; simp only [true_and]
theorem oi_land {x y : Int64} (hd : decode mm.2.1 pc = .ok (.land, 1)) : zq d mm Q pc ls (.long y :: .long x :: st) σ ρ I L = zq d mm Q (pc + 1) ls (.long (x &&& y) :: st) σ ρ I L := by
  unfold zq; rw [zR_op hd]; unfold zstp z2l; simp only [true_and]
theorem oi_lor {x y : Int64} (hd : decode mm.2.1 pc = .ok (.lor, 1)) : zq d mm Q pc ls (.long y :: .long x :: st) σ ρ I L = zq d mm Q (pc + 1) ls (.long (x ||| y) :: st) σ ρ I L := by
  unfold zq; rw [zR_op hd]; unfold zstp z2l; simp only [true_and]
theorem oi_ldiv {x y : Int64} (hd : decode mm.2.1 pc = .ok (.ldiv, 1)) : zq d mm Q pc ls (.long y :: .long x :: st) σ ρ I L = (¬ y = 0 ∧ zq d mm Q (pc + 1) ls (.long (x / y) :: st) σ ρ I L) := by
  unfold zq; rw [zR_op hd]; unfold zstp z2l; simp only [true_and]
theorem oi_lrem {x y : Int64} (hd : decode mm.2.1 pc = .ok (.lrem, 1)) : zq d mm Q pc ls (.long y :: .long x :: st) σ ρ I L = (¬ y = 0 ∧ zq d mm Q (pc + 1) ls (.long (x - x / y * y) :: st) σ ρ I L) := by
  unfold zq; rw [zR_op hd]; unfold zstp z2l; simp only [true_and]
theorem oi_lcmp {x y : Int64} (hd : decode mm.2.1 pc = .ok (.lcmp, 1)) : zq d mm Q pc ls (.long y :: .long x :: st) σ ρ I L = zq d mm Q (pc + 1) ls (.int (lg_cmp x y) :: st) σ ρ I L := by
  unfold zq; rw [zR_op hd]; unfold zstp z2l; simp only [true_and]
theorem oi_lshl {x : Int64} {y : Int32} (hd : decode mm.2.1 pc = .ok (.lshl, 1)) : zq d mm Q pc ls (.int y :: .long x :: st) σ ρ I L = zq d mm Q (pc + 1) ls (.long (x <<< (y.toInt64 &&& 63)) :: st) σ ρ I L := by
  unfold zq; rw [zR_op hd]; unfold zstp zli; simp only [true_and]
theorem oi_lshr {x : Int64} {y : Int32} (hd : decode mm.2.1 pc = .ok (.lshr, 1)) : zq d mm Q pc ls (.int y :: .long x :: st) σ ρ I L = zq d mm Q (pc + 1) ls (.long (x >>> (y.toInt64 &&& 63)) :: st) σ ρ I L := by
  unfold zq; rw [zR_op hd]; unfold zstp zli; simp only [true_and]
theorem oi_lushr {x : Int64} {y : Int32} (hd : decode mm.2.1 pc = .ok (.lushr, 1)) : zq d mm Q pc ls (.int y :: .long x :: st) σ ρ I L = zq d mm Q (pc + 1) ls (.long (x.toUInt64 >>> (y.toInt64.toUInt64 &&& Int64.toUInt64 63)).toInt64 :: st) σ ρ I L := by
  unfold zq; rw [zR_op hd]; unfold zstp zli; simp only [true_and]
theorem oi_i2l {x : Int32} (hd : decode mm.2.1 pc = .ok (.i2l, 1)) : zq d mm Q pc ls (.int x :: st) σ ρ I L = zq d mm Q (pc + 1) ls (.long x.toInt64 :: st) σ ρ I L := by
  unfold zq; rw [zR_op hd]; unfold zstp z1; simp only [true_and]
theorem oi_i2c {x : Int32} (hd : decode mm.2.1 pc = .ok (.i2c, 1)) : zq d mm Q pc ls (.int x :: st) σ ρ I L = zq d mm Q (pc + 1) ls (.int (x.toUInt32 % 65536).toInt32 :: st) σ ρ I L := by
  unfold zq; rw [zR_op hd]; unfold zstp z1; simp only [true_and]
theorem oi_l2i {x : Int64} (hd : decode mm.2.1 pc = .ok (.l2i, 1)) : zq d mm Q pc ls (.long x :: st) σ ρ I L = zq d mm Q (pc + 1) ls (.int x.toInt32 :: st) σ ρ I L := by
  unfold zq; rw [zR_op hd]; unfold zstp z1l; simp only [true_and]
theorem oi_pop {w : Value} (hd : decode mm.2.1 pc = .ok (.pop, 1)) (hw : w.category = 1) : zq d mm Q pc ls (w :: st) σ ρ I L = zq d mm Q (pc + 1) ls st σ ρ I L := by
  unfold zq; rw [zR_op hd]; unfold zstp z1v; simp only [hw, true_and]
theorem oi_dup {w : Value} (hd : decode mm.2.1 pc = .ok (.dup, 1)) (hw : w.category = 1) : zq d mm Q pc ls (w :: st) σ ρ I L = zq d mm Q (pc + 1) ls (w :: w :: st) σ ρ I L := by
  unfold zq; rw [zR_op hd]; unfold zstp z1v; simp only [hw, true_and]
theorem oi_dup2 {w y : Value} (hd : decode mm.2.1 pc = .ok (.dup2, 1)) (hw : w.category = 1) (hy : y.category = 1) : zq d mm Q pc ls (w :: y :: st) σ ρ I L = zq d mm Q (pc + 1) ls (w :: y :: w :: y :: st) σ ρ I L := by
  unfold zq; rw [zR_op hd]; unfold zstp z1v; simp [hw, hy, z1v]
theorem oi_dup2l {w : Value} (hd : decode mm.2.1 pc = .ok (.dup2, 1)) (hw : w.category = 2) : zq d mm Q pc ls (w :: st) σ ρ I L = zq d mm Q (pc + 1) ls (w :: w :: st) σ ρ I L := by
  unfold zq; rw [zR_op hd]; unfold zstp z1v; simp [hw]
theorem oi_goto {off : Int} {t : Nat} (hd : decode mm.2.1 pc = .ok (.goto off, 3)) (ht : (pc : Int) + off = (t : Int)) : zq d mm Q pc ls st σ ρ I L = zq d mm Q t ls st σ ρ I L := by
  unfold zq; rw [zR_op hd]; unfold zstp; simp only [zj_at ht, true_and]
theorem oi_ifeq {x : Int32} {off : Int} {t : Nat} (hd : decode mm.2.1 pc = .ok (.ifCond .eq off, 3)) (ht : (pc : Int) + off = (t : Int)) : zq d mm Q pc ls (.int x :: st) σ ρ I L = if x = nI 0 then zq d mm Q t ls st σ ρ I L else zq d mm Q (pc + 3) ls st σ ρ I L := by
  unfold zq; rw [zR_op hd]; unfold zstp z1; simp only [zj_at ht, true_and, nI_0]
theorem oi_ifne {x : Int32} {off : Int} {t : Nat} (hd : decode mm.2.1 pc = .ok (.ifCond .ne off, 3)) (ht : (pc : Int) + off = (t : Int)) : zq d mm Q pc ls (.int x :: st) σ ρ I L = if x = nI 0 then zq d mm Q (pc + 3) ls st σ ρ I L else zq d mm Q t ls st σ ρ I L := by
  unfold zq; rw [zR_op hd]; unfold zstp z1; simp only [zj_at ht, true_and, nI_0]
theorem oi_iflt {x : Int32} {off : Int} {t : Nat} (hd : decode mm.2.1 pc = .ok (.ifCond .lt off, 3)) (ht : (pc : Int) + off = (t : Int)) : zq d mm Q pc ls (.int x :: st) σ ρ I L = if x < nI 0 then zq d mm Q t ls st σ ρ I L else zq d mm Q (pc + 3) ls st σ ρ I L := by
  unfold zq; rw [zR_op hd]; unfold zstp z1; simp only [zj_at ht, true_and, nI_0]
theorem oi_ifge {x : Int32} {off : Int} {t : Nat} (hd : decode mm.2.1 pc = .ok (.ifCond .ge off, 3)) (ht : (pc : Int) + off = (t : Int)) : zq d mm Q pc ls (.int x :: st) σ ρ I L = if nI 0 ≤ x then zq d mm Q t ls st σ ρ I L else zq d mm Q (pc + 3) ls st σ ρ I L := by
  unfold zq; rw [zR_op hd]; unfold zstp z1; simp only [zj_at ht, true_and, nI_0]
theorem oi_ifgt {x : Int32} {off : Int} {t : Nat} (hd : decode mm.2.1 pc = .ok (.ifCond .gt off, 3)) (ht : (pc : Int) + off = (t : Int)) : zq d mm Q pc ls (.int x :: st) σ ρ I L = if nI 0 < x then zq d mm Q t ls st σ ρ I L else zq d mm Q (pc + 3) ls st σ ρ I L := by
  unfold zq; rw [zR_op hd]; unfold zstp z1; simp only [zj_at ht, true_and, nI_0]
theorem oi_ifle {x : Int32} {off : Int} {t : Nat} (hd : decode mm.2.1 pc = .ok (.ifCond .le off, 3)) (ht : (pc : Int) + off = (t : Int)) : zq d mm Q pc ls (.int x :: st) σ ρ I L = if x ≤ nI 0 then zq d mm Q t ls st σ ρ I L else zq d mm Q (pc + 3) ls st σ ρ I L := by
  unfold zq; rw [zR_op hd]; unfold zstp z1; simp only [zj_at ht, true_and, nI_0]
theorem oi_icmpeq {x y : Int32} {off : Int} {t : Nat} (hd : decode mm.2.1 pc = .ok (.if_icmp .eq off, 3)) (ht : (pc : Int) + off = (t : Int)) : zq d mm Q pc ls (.int y :: .int x :: st) σ ρ I L = if x = y then zq d mm Q t ls st σ ρ I L else zq d mm Q (pc + 3) ls st σ ρ I L := by
  unfold zq; rw [zR_op hd]; unfold zstp z2; simp only [zj_at ht, true_and]
theorem oi_icmpne {x y : Int32} {off : Int} {t : Nat} (hd : decode mm.2.1 pc = .ok (.if_icmp .ne off, 3)) (ht : (pc : Int) + off = (t : Int)) : zq d mm Q pc ls (.int y :: .int x :: st) σ ρ I L = if x = y then zq d mm Q (pc + 3) ls st σ ρ I L else zq d mm Q t ls st σ ρ I L := by
  unfold zq; rw [zR_op hd]; unfold zstp z2; simp only [zj_at ht, true_and]
theorem oi_icmplt {x y : Int32} {off : Int} {t : Nat} (hd : decode mm.2.1 pc = .ok (.if_icmp .lt off, 3)) (ht : (pc : Int) + off = (t : Int)) : zq d mm Q pc ls (.int y :: .int x :: st) σ ρ I L = if x < y then zq d mm Q t ls st σ ρ I L else zq d mm Q (pc + 3) ls st σ ρ I L := by
  unfold zq; rw [zR_op hd]; unfold zstp z2; simp only [zj_at ht, true_and]
theorem oi_icmpge {x y : Int32} {off : Int} {t : Nat} (hd : decode mm.2.1 pc = .ok (.if_icmp .ge off, 3)) (ht : (pc : Int) + off = (t : Int)) : zq d mm Q pc ls (.int y :: .int x :: st) σ ρ I L = if y ≤ x then zq d mm Q t ls st σ ρ I L else zq d mm Q (pc + 3) ls st σ ρ I L := by
  unfold zq; rw [zR_op hd]; unfold zstp z2; simp only [zj_at ht, true_and]
theorem oi_icmpgt {x y : Int32} {off : Int} {t : Nat} (hd : decode mm.2.1 pc = .ok (.if_icmp .gt off, 3)) (ht : (pc : Int) + off = (t : Int)) : zq d mm Q pc ls (.int y :: .int x :: st) σ ρ I L = if y < x then zq d mm Q t ls st σ ρ I L else zq d mm Q (pc + 3) ls st σ ρ I L := by
  unfold zq; rw [zR_op hd]; unfold zstp z2; simp only [zj_at ht, true_and]
theorem oi_icmple {x y : Int32} {off : Int} {t : Nat} (hd : decode mm.2.1 pc = .ok (.if_icmp .le off, 3)) (ht : (pc : Int) + off = (t : Int)) : zq d mm Q pc ls (.int y :: .int x :: st) σ ρ I L = if x ≤ y then zq d mm Q t ls st σ ρ I L else zq d mm Q (pc + 3) ls st σ ρ I L := by
  unfold zq; rw [zR_op hd]; unfold zstp z2; simp only [zj_at ht, true_and]
/-- where a switch goes -/
def zsw (x : Int32) (lo hi : Int) (ts : List Nat) (dt : Nat) : Nat := if x.toInt < lo ∨ hi < x.toInt then dt else ts.getD (x.toInt - lo).toNat dt
theorem oi_switch {x : Int32} {dflt lo hi : Int} {offs : Array Int} {n : Nat} {ts : List Nat} {dt : Nat} (hd : decode mm.2.1 pc = .ok (.tableswitch dflt lo hi offs, n)) (ht : (pc : Int) + dflt = (dt : Int)) (hl : (ts.length : Int) = hi - lo + 1) (ho : offs.toList.map (fun o => (pc : Int) + o) = ts.map Int.ofNat) : zq d mm Q pc ls (.int x :: st) σ ρ I L = zq d mm Q (zsw x lo hi ts dt) ls st σ ρ I L := by
  unfold zq; rw [zR_op hd]
  show (if x.toInt < lo ∨ hi < x.toInt then zj pc dflt fun t => _ else _) = _
  unfold zsw
  by_cases h : x.toInt < lo ∨ hi < x.toInt
  · rw [if_pos h, if_pos h, zj_at ht]
  · rw [if_neg h, if_neg h]
    have hk : (x.toInt - lo).toNat < ts.length := by omega
    have hlen : offs.toList.length = ts.length := by have := congrArg List.length ho; simpa using this
    have hk2 : (x.toInt - lo).toNat < offs.size := by rw [← Array.length_toList]; omega
    have e1 : offs[(x.toInt - lo).toNat]? = some offs[(x.toInt - lo).toNat] := Array.getElem?_eq_getElem hk2
    rw [e1]
    have e2 : (pc : Int) + offs[(x.toInt - lo).toNat] = ((ts[(x.toInt - lo).toNat] : Nat) : Int) := by
      have := congrArg (fun l => l[(x.toInt - lo).toNat]?) ho
      simp [hk, hk2] at this
      exact this
    show zj pc _ _ = _
    rw [zj_at e2]
    rw [List.getD_eq_getElem?_getD, List.getElem?_eq_getElem hk]
    rfl
theorem oi_getfield {a i ty k : Nat} {fin : Bool} {oks : List Nat} (hd : decode mm.2.1 pc = .ok (.getfield i, 3)) (hj : mm.2.2.2.2.1 ≠ 20) (hF : zF mm.2.2.2.2.1 i = some (ty, k, fin, oks)) (ha : a < σ.1) (ho : (σ.2 a).1 ∈ oks) : zq d mm Q pc ls (.ref a :: st) σ ρ I L = zq d mm Q (pc + 3) ls (zfv ty ρ I L a k :: st) σ ρ I L := by
  unfold zq; rw [zR_op hd]; unfold zstp zgf z1r; simp only [hF, ha, ho, true_and, if_neg hj]
theorem oi_getr {a i k c : Nat} {fin : Bool} {oks : List Nat} (hd : decode mm.2.1 pc = .ok (.getfield i, 3)) (hj : mm.2.2.2.2.1 ≠ 20) (hF : zF mm.2.2.2.2.1 i = some (3, k, fin, oks)) (ha : a < σ.1) (ho : (σ.2 a).1 ∈ oks) (hc : ρ a k = some c) : zq d mm Q pc ls (.ref a :: st) σ ρ I L = zq d mm Q (pc + 3) ls (.ref c :: st) σ ρ I L := by
  rw [oi_getfield hd hj hF ha ho]; unfold zfv; simp only [hc]; rfl
theorem oi_geti {a i k : Nat} {fin : Bool} {oks : List Nat} (hd : decode mm.2.1 pc = .ok (.getfield i, 3)) (hj : mm.2.2.2.2.1 ≠ 20) (hF : zF mm.2.2.2.2.1 i = some (0, k, fin, oks)) (ha : a < σ.1) (ho : (σ.2 a).1 ∈ oks) : zq d mm Q pc ls (.ref a :: st) σ ρ I L = zq d mm Q (pc + 3) ls (.int (I a k) :: st) σ ρ I L := oi_getfield hd hj hF ha ho
theorem oi_getz {a i k : Nat} {fin : Bool} {oks : List Nat} (hd : decode mm.2.1 pc = .ok (.getfield i, 3)) (hj : mm.2.2.2.2.1 ≠ 20) (hF : zF mm.2.2.2.2.1 i = some (1, k, fin, oks)) (ha : a < σ.1) (ho : (σ.2 a).1 ∈ oks) : zq d mm Q pc ls (.ref a :: st) σ ρ I L = zq d mm Q (pc + 3) ls (.int (I a k) :: st) σ ρ I L := oi_getfield hd hj hF ha ho
theorem oi_getl {a i k : Nat} {fin : Bool} {oks : List Nat} (hd : decode mm.2.1 pc = .ok (.getfield i, 3)) (hj : mm.2.2.2.2.1 ≠ 20) (hF : zF mm.2.2.2.2.1 i = some (2, k, fin, oks)) (ha : a < σ.1) (ho : (σ.2 a).1 ∈ oks) : zq d mm Q pc ls (.ref a :: st) σ ρ I L = zq d mm Q (pc + 3) ls (.long (L a k) :: st) σ ρ I L := oi_getfield hd hj hF ha ho
theorem oi_puti {a i k : Nat} {fin : Bool} {oks : List Nat} {x : Int32} (hd : decode mm.2.1 pc = .ok (.putfield i, 3)) (hF : zF mm.2.2.2.2.1 i = some (0, k, fin, oks)) (ha : a < σ.1) (ho : (σ.2 a).1 ∈ oks) (hf : fin = false) : zq d mm Q pc ls (.int x :: .ref a :: st) σ ρ I L = zq d mm Q (pc + 3) ls st σ ρ (zup I a k x) L := by
  unfold zq; rw [zR_op hd]; unfold zstp zpf z2v; simp only [hF, ha, ho, true_and, hf, reduceCtorEq, false_implies]
theorem oi_putz {a i k : Nat} {fin : Bool} {oks : List Nat} {x : Int32} (hd : decode mm.2.1 pc = .ok (.putfield i, 3)) (hF : zF mm.2.2.2.2.1 i = some (1, k, fin, oks)) (ha : a < σ.1) (ho : (σ.2 a).1 ∈ oks) (hf : fin = false) : zq d mm Q pc ls (.int x :: .ref a :: st) σ ρ I L = ((x = nI 0 ∨ x = nI 1) ∧ zq d mm Q (pc + 3) ls st σ ρ (zup I a k x) L) := by
  unfold zq; rw [zR_op hd]; unfold zstp zpf z2v; simp only [hF, ha, ho, true_and, hf, reduceCtorEq, false_implies]; rfl
theorem oi_putl {a i k : Nat} {fin : Bool} {oks : List Nat} {x : Int64} (hd : decode mm.2.1 pc = .ok (.putfield i, 3)) (hF : zF mm.2.2.2.2.1 i = some (2, k, fin, oks)) (ha : a < σ.1) (ho : (σ.2 a).1 ∈ oks) (hf : fin = false) : zq d mm Q pc ls (.long x :: .ref a :: st) σ ρ I L = zq d mm Q (pc + 3) ls st σ ρ I (zup L a k x) := by
  unfold zq; rw [zR_op hd]; unfold zstp zpf z2v; simp only [hF, ha, ho, true_and, hf, reduceCtorEq, false_implies]
theorem oi_putr {a i k b : Nat} {fin : Bool} {oks : List Nat} (hd : decode mm.2.1 pc = .ok (.putfield i, 3)) (hF : zF mm.2.2.2.2.1 i = some (3, k, fin, oks)) (ha : a < σ.1) (ho : (σ.2 a).1 ∈ oks) (hf : fin = false) : zq d mm Q pc ls (.ref b :: .ref a :: st) σ ρ I L = zq d mm Q (pc + 3) ls st σ (zup ρ a k (some b)) I L := by
  unfold zq; rw [zR_op hd]; unfold zstp zpf z2v; simp only [hF, ha, ho, true_and, hf, reduceCtorEq, false_implies]
theorem oi_iaload {a : Nat} {i : Int32} (hd : decode mm.2.1 pc = .ok (.iaload, 1)) (ha : a ≠ 7000) : zq d mm Q pc ls (.int i :: .ref a :: st) σ ρ I L = (zin σ a 20 i ∧ zq d mm Q (pc + 1) ls (.int (I a i.toNatClampNeg) :: st) σ ρ I L) := by
  unfold zq; rw [zR_op hd]; unfold zstp zra; simp only [if_neg ha, true_and]
theorem oi_zaload {a : Nat} {i : Int32} (hd : decode mm.2.1 pc = .ok (.baload, 1)) (ha : a < 6000) : zq d mm Q pc ls (.int i :: .ref a :: st) σ ρ I L = (zin σ a 21 i ∧ zq d mm Q (pc + 1) ls (.int (I a i.toNatClampNeg) :: st) σ ρ I L) := by
  unfold zq; rw [zR_op hd]; unfold zstp zra; simp only [if_neg (show ¬ (6000 ≤ a ∧ a < 6004) by omega), true_and]
theorem oi_laload {a : Nat} {i : Int32} (hd : decode mm.2.1 pc = .ok (.laload, 1)) : zq d mm Q pc ls (.int i :: .ref a :: st) σ ρ I L = (zin σ a 22 i ∧ zq d mm Q (pc + 1) ls (.long (L a i.toNatClampNeg) :: st) σ ρ I L) := by
  unfold zq; rw [zR_op hd]; unfold zstp zra; simp only [true_and]
theorem oi_aaload {a : Nat} {i : Int32} (hd : decode mm.2.1 pc = .ok (.aaload, 1)) (ha : a < σ.1) (hk : (σ.2 a).1 = 23 ∨ (σ.2 a).1 = 24 ∨ (σ.2 a).1 = 25) : zq d mm Q pc ls (.int i :: .ref a :: st) σ ρ I L = (vp_in i (σ.2 a).2 ∧ zq d mm Q (pc + 1) ls (va_rf (ρ a i.toNatClampNeg) :: st) σ ρ I L) := by
  unfold zq; rw [zR_op hd]; unfold zstp zra; simp only [ha, hk, true_and]
theorem oi_iastore {a : Nat} {i x : Int32} (hd : decode mm.2.1 pc = .ok (.iastore, 1)) : zq d mm Q pc ls (.int x :: .int i :: .ref a :: st) σ ρ I L = (zin σ a 20 i ∧ zq d mm Q (pc + 1) ls st σ ρ (zup I a i.toNatClampNeg x) L) := by
  unfold zq; rw [zR_op hd]; unfold zstp zia; simp only [true_and]
theorem oi_zastore {a : Nat} {i x : Int32} (hd : decode mm.2.1 pc = .ok (.bastore, 1)) : zq d mm Q pc ls (.int x :: .int i :: .ref a :: st) σ ρ I L = (zin σ a 21 i ∧ (x = nI 0 ∨ x = nI 1) ∧ zq d mm Q (pc + 1) ls st σ ρ (zup I a i.toNatClampNeg x) L) := by
  unfold zq; rw [zR_op hd]; unfold zstp zia; simp only [true_and]; rfl
theorem oi_lastore {a : Nat} {i : Int32} {x : Int64} (hd : decode mm.2.1 pc = .ok (.lastore, 1)) : zq d mm Q pc ls (.long x :: .int i :: .ref a :: st) σ ρ I L = (zin σ a 22 i ∧ zq d mm Q (pc + 1) ls st σ ρ I (zup L a i.toNatClampNeg x)) := by
  unfold zq; rw [zR_op hd]; unfold zstp zil; simp only [true_and]
theorem oi_ial {a n : Nat} {i : Int32} (hd : decode mm.2.1 pc = .ok (.iaload, 1)) (ha : a ≠ 7000) (hz : zin σ a 20 i = vp_in i n) : zq d mm Q pc ls (.int i :: .ref a :: st) σ ρ I L = (vp_in i n ∧ zq d mm Q (pc + 1) ls (.int (I a i.toNatClampNeg) :: st) σ ρ I L) := by rw [oi_iaload hd ha, hz]
theorem oi_zal {a n : Nat} {i : Int32} (hd : decode mm.2.1 pc = .ok (.baload, 1)) (ha : a < 6000) (hz : zin σ a 21 i = vp_in i n) : zq d mm Q pc ls (.int i :: .ref a :: st) σ ρ I L = (vp_in i n ∧ zq d mm Q (pc + 1) ls (.int (I a i.toNatClampNeg) :: st) σ ρ I L) := by rw [oi_zaload hd ha, hz]
theorem oi_lal {a n : Nat} {i : Int32} (hd : decode mm.2.1 pc = .ok (.laload, 1)) (hz : zin σ a 22 i = vp_in i n) : zq d mm Q pc ls (.int i :: .ref a :: st) σ ρ I L = (vp_in i n ∧ zq d mm Q (pc + 1) ls (.long (L a i.toNatClampNeg) :: st) σ ρ I L) := by rw [oi_laload hd, hz]
theorem oi_aal {a n : Nat} {i : Int32} (hd : decode mm.2.1 pc = .ok (.aaload, 1)) (ha : a < σ.1) (hk : (σ.2 a).1 = 23 ∨ (σ.2 a).1 = 24 ∨ (σ.2 a).1 = 25) (hn : (σ.2 a).2 = n) : zq d mm Q pc ls (.int i :: .ref a :: st) σ ρ I L = (vp_in i n ∧ zq d mm Q (pc + 1) ls (va_rf (ρ a i.toNatClampNeg) :: st) σ ρ I L) := by rw [oi_aaload hd ha hk, hn]
theorem oi_ias {a n : Nat} {i x : Int32} (hd : decode mm.2.1 pc = .ok (.iastore, 1)) (hz : zin σ a 20 i = vp_in i n) : zq d mm Q pc ls (.int x :: .int i :: .ref a :: st) σ ρ I L = (vp_in i n ∧ zq d mm Q (pc + 1) ls st σ ρ (zup I a i.toNatClampNeg x) L) := by rw [oi_iastore hd, hz]
theorem oi_zas {a n : Nat} {i x : Int32} (hd : decode mm.2.1 pc = .ok (.bastore, 1)) (hz : zin σ a 21 i = vp_in i n) : zq d mm Q pc ls (.int x :: .int i :: .ref a :: st) σ ρ I L = (vp_in i n ∧ (x = nI 0 ∨ x = nI 1) ∧ zq d mm Q (pc + 1) ls st σ ρ (zup I a i.toNatClampNeg x) L) := by rw [oi_zastore hd, hz]
theorem oi_las {a n : Nat} {i : Int32} {x : Int64} (hd : decode mm.2.1 pc = .ok (.lastore, 1)) (hz : zin σ a 22 i = vp_in i n) : zq d mm Q pc ls (.long x :: .int i :: .ref a :: st) σ ρ I L = (vp_in i n ∧ zq d mm Q (pc + 1) ls st σ ρ I (zup L a i.toNatClampNeg x)) := by rw [oi_lastore hd, hz]
theorem oi_alen {a : Nat} (hd : decode mm.2.1 pc = .ok (.arraylength, 1)) (ha : a < 5000) : zq d mm Q pc ls (.ref a :: st) σ ρ I L = (a < σ.1 ∧ 20 ≤ (σ.2 a).1 ∧ (σ.2 a).1 ≤ 25 ∧ zq d mm Q (pc + 1) ls (.int (nI (σ.2 a).2) :: st) σ ρ I L) := by
  unfold zq; rw [zR_op hd]; unfold zstp z1r; simp only [if_neg (show ¬ a = 7000 by omega), if_neg (show ¬ (6000 ≤ a ∧ a < 6004) by omega), true_and]; rfl
theorem oi_alenb {a : Nat} (hd : decode mm.2.1 pc = .ok (.arraylength, 1)) (h1 : 6000 ≤ a) (h2 : a < 6004) : zq d mm Q pc ls (.ref a :: st) σ ρ I L = zq d mm Q (pc + 1) ls (.int (nI (zlen.getD (a - 6000) 0)) :: st) σ ρ I L := by
  unfold zq; rw [zR_op hd]; unfold zstp z1r; simp only [if_neg (show ¬ a = 7000 by omega), if_pos (show (6000 ≤ a ∧ a < 6004) from ⟨h1, h2⟩), true_and]; rfl
theorem oi_baload {a : Nat} {i : Int32} (hd : decode mm.2.1 pc = .ok (.baload, 1)) (h1 : 6000 ≤ a) (h2 : a < 6004) : zq d mm Q pc ls (.int i :: .ref a :: st) σ ρ I L = (vp_in i (zlen.getD (a - 6000) 0) ∧ zq d mm Q (pc + 1) ls (.int ((zbyt.getD (a - 6000) []).getD i.toNatClampNeg 0) :: st) σ ρ I L) := by
  unfold zq; rw [zR_op hd]; unfold zstp zra; simp only [if_pos (show (6000 ≤ a ∧ a < 6004) from ⟨h1, h2⟩), true_and]
theorem oi_gstr {a : Nat} (hd : decode mm.2.1 pc = .ok (.getfield 9, 3)) (hj : mm.2.2.2.2.1 = 20) (h1 : 5000 ≤ a) (h2 : a < 5004) : zq d mm Q pc ls (.ref a :: st) σ ρ I L = zq d mm Q (pc + 3) ls (.ref (a + 1000) :: st) σ ρ I L := by
  unfold zq; rw [zR_op hd]; unfold zstp zgf z1r; simp only [if_pos hj, h1, h2, true_and, if_pos]
theorem oi_gcod {a : Nat} (hd : decode mm.2.1 pc = .ok (.getfield 15, 3)) (hj : mm.2.2.2.2.1 = 20) (h1 : 5000 ≤ a) (h2 : a < 5004) : zq d mm Q pc ls (.ref a :: st) σ ρ I L = zq d mm Q (pc + 3) ls (.int (nI 0) :: st) σ ρ I L := by
  unfold zq; rw [zR_op hd]; unfold zstp zgf z1r; simp only [if_pos hj, h1, h2, true_and]; rfl
theorem oi_gs38 (hd : decode mm.2.1 pc = .ok (.getstatic 38, 3)) (hj : mm.2.2.2.2.1 = 20) : zq d mm Q pc ls st σ ρ I L = zq d mm Q (pc + 3) ls (.int (nI 1) :: st) σ ρ I L := by
  unfold zq; rw [zR_op hd]; unfold zstp; simp only [hj, true_and]; rfl
theorem oi_gs1053 (hd : decode mm.2.1 pc = .ok (.getstatic 1053, 3)) (hj : mm.2.2.2.2.1 = 20) : zq d mm Q pc ls st σ ρ I L = zq d mm Q (pc + 3) ls (.retAddr 0 :: st) σ ρ I L := by
  unfold zq; rw [zR_op hd]; unfold zstp; simp only [hj, true_and]; rfl
theorem zcl_at {cm : zM} {mi : Nat} {as r : List Value} (hcm : zMs[mi]? = some cm) (hr : zsum r ≤ 8) (h1 : cm.2.2.2.2.2.1 = 0) (h2 : cm.2.2.2.2.2.2 = 0) : zcl (zR none (zW d) mm Q) (zW d) mm pc ls 0 0 σ ρ I L mi as r = zW d cm as σ ρ I L (fun w σ' ρ' I' L' => zq d mm Q (pc + 3) ls (w.toList ++ r) σ' ρ' I' L') := by
  unfold zcl zq; rw [hcm]; simp only [hr, h1, h2, Nat.zero_add, Nat.zero_le, true_and]
theorem oi_iv {cm : zM} {i k a kd : Nat} {ts : List (Nat × Nat × Nat × List Nat)} {t : Nat × Nat × Nat × List Nat} {as r : List Value} (hd : decode mm.2.1 pc = .ok (.invokevirtual i, 3)) (hV : zV mm.2.2.2.2.1 i = some (k, ts)) (hst : st = as.reverse ++ .ref a :: r) (hk : as.length = k) (ha : a < σ.1) (hkd : (σ.2 a).1 = kd) (h12 : kd < 12) (ht : ts.find? (fun t => t.1 == kd) = some t) (hcm : zMs[t.2.1]? = some cm) (hr : zsum r ≤ 8) (h1 : cm.2.2.2.2.2.1 = 0) (h2 : cm.2.2.2.2.2.2 = 0) :
    zq d mm Q pc ls st σ ρ I L = zW d cm (.ref a :: as) σ ρ I L (fun w σ' ρ' I' L' => zq d mm Q (pc + 3) ls (w.toList ++ r) σ' ρ' I' L') := by
  have e1 : st.drop k = .ref a :: r := by rw [hst, List.drop_left' (by simp [hk])]
  have e2 : st.take k = as.reverse := by rw [hst, List.take_left' (by simp [hk])]
  rw [← zcl_at hcm hr h1 h2 (as := .ref a :: as) (mm := mm)]
  unfold zq; rw [zR_op hd]; unfold zstp
  simp only [hV, e1, e2, z1r, zkd, if_pos ha, hkd, h12, ht, List.reverse_reverse, true_and]
theorem oi_ivs {cm : zM} {i k a : Nat} {ts : List (Nat × Nat × Nat × List Nat)} {t : Nat × Nat × Nat × List Nat} {as r : List Value} (hd : decode mm.2.1 pc = .ok (.invokevirtual i, 3)) (hV : zV mm.2.2.2.2.1 i = some (k, ts)) (hst : st = as.reverse ++ .ref a :: r) (hk : as.length = k) (ha : ¬ a < σ.1) (ha1 : 5000 ≤ a) (ha2 : a < 5004) (ht : ts.find? (fun t => t.1 == 20) = some t) (hcm : zMs[t.2.1]? = some cm) (hr : zsum r ≤ 8) (h1 : cm.2.2.2.2.2.1 = 0) (h2 : cm.2.2.2.2.2.2 = 0) :
    zq d mm Q pc ls st σ ρ I L = zW d cm (.ref a :: as) σ ρ I L (fun w σ' ρ' I' L' => zq d mm Q (pc + 3) ls (w.toList ++ r) σ' ρ' I' L') := by
  have e1 : st.drop k = .ref a :: r := by rw [hst, List.drop_left' (by simp [hk])]
  have e2 : st.take k = as.reverse := by rw [hst, List.take_left' (by simp [hk])]
  rw [← zcl_at hcm hr h1 h2 (as := .ref a :: as) (mm := mm)]
  unfold zq; rw [zR_op hd]; unfold zstp
  simp only [hV, e1, e2, z1r, zkd, if_neg ha, ha1, ha2, and_self, if_true, ht, List.reverse_reverse, true_and]
theorem oi_is {cm : zM} {i k mi : Nat} {as r : List Value} (hd : decode mm.2.1 pc = .ok (.invokestatic i, 3)) (h0 : ¬ (mm.2.2.2.2.1 = 0 ∧ i = 44)) (hB1 : ¬ (mm.2.2.2.2.1 = zBmax.1 ∧ i = zBmax.2)) (hB2 : ¬ (mm.2.2.2.2.1 = zBmin.1 ∧ i = zBmin.2)) (hS : zS mm.2.2.2.2.1 i = some (k, mi)) (hst : st = as.reverse ++ r) (hk : as.length = k) (hcm : zMs[mi]? = some cm) (hr : zsum r ≤ 8) (h1 : cm.2.2.2.2.2.1 = 0) (h2 : cm.2.2.2.2.2.2 = 0) :
    zq d mm Q pc ls st σ ρ I L = zW d cm as σ ρ I L (fun w σ' ρ' I' L' => zq d mm Q (pc + 3) ls (w.toList ++ r) σ' ρ' I' L') := by
  have e1 : st.drop k = r := by rw [hst, List.drop_left' (by simp [hk])]
  have e2 : st.take k = as.reverse := by rw [hst, List.take_left' (by simp [hk])]
  have e3 : k ≤ st.length := by rw [hst]; simp [hk]
  rw [← zcl_at hcm hr h1 h2 (as := as) (mm := mm)]
  unfold zq; rw [zR_op hd]; unfold zstp
  simp only [if_neg h0, if_neg hB1, if_neg hB2, hS, e1, e2, e3, List.reverse_reverse, true_and]
theorem oi_max {i : Nat} {x y : Int32} (hd : decode mm.2.1 pc = .ok (.invokestatic i, 3)) (h0 : ¬ (mm.2.2.2.2.1 = 0 ∧ i = 44)) (hB1 : (mm.2.2.2.2.1 = zBmax.1 ∧ i = zBmax.2)) (hr : zsum st ≤ 8) : zq d mm Q pc ls (.int y :: .int x :: st) σ ρ I L = zq d mm Q (pc + 3) ls (.int (if x < y then y else x) :: st) σ ρ I L := by
  unfold zq; rw [zR_op hd]; unfold zstp; simp only [if_neg h0, if_pos hB1, z2, hr, Nat.zero_le, true_and]
theorem oi_min {i : Nat} {x y : Int32} (hd : decode mm.2.1 pc = .ok (.invokestatic i, 3)) (h0 : ¬ (mm.2.2.2.2.1 = 0 ∧ i = 44)) (hB1 : ¬ (mm.2.2.2.2.1 = zBmax.1 ∧ i = zBmax.2)) (hB2 : (mm.2.2.2.2.1 = zBmin.1 ∧ i = zBmin.2)) (hr : zsum st ≤ 8) : zq d mm Q pc ls (.int y :: .int x :: st) σ ρ I L = zq d mm Q (pc + 3) ls (.int (if y < x then y else x) :: st) σ ρ I L := by
  unfold zq; rw [zR_op hd]; unfold zstp; simp only [if_neg h0, if_neg hB1, if_pos hB2, z2, hr, Nat.zero_le, true_and]
theorem oi_copy (hd : decode mm.2.1 pc = .ok (.invokestatic 44, 3)) (h0 : mm.2.2.2.2.1 = 0) : zq d mm Q pc ls st σ ρ I L = zcpy (zR none (zW d) mm Q) pc ls st 0 0 σ ρ I L := by
  unfold zq; rw [zR_op hd]; unfold zstp
  show (3 = 3 ∧ (if mm.2.2.2.2.1 = 0 ∧ 44 = 44 then _ else _)) = _
  rw [if_pos ⟨h0, rfl⟩, eq_self, true_and]
theorem oi_super {cm : zM} {i k mi md a : Nat} {as r : List Value} (hd : decode mm.2.1 pc = .ok (.invokespecial i, 3)) (hO : zO mm.2.2.2.2.1 i = false) (hI : zI mm.2.2.2.2.1 i = some (k, mi, md)) (hst : st = as.reverse ++ .ref a :: r) (hk : as.length = k) (ha : a < σ.1) (h12 : (σ.2 a).1 < 12) (hcm : zMs[mi]? = some cm) (hr : zsum r ≤ 8) (h1 : cm.2.2.2.2.2.1 = 0) (h2 : cm.2.2.2.2.2.2 = 0) :
    zq d mm Q pc ls st σ ρ I L = zW d cm (.ref a :: as) σ ρ I L (fun w σ' ρ' I' L' => zq d mm Q (pc + 3) ls (w.toList ++ r) σ' ρ' I' L') := by
  have e1 : st.drop k = .ref a :: r := by rw [hst, List.drop_left' (by simp [hk])]
  have e2 : st.take k = as.reverse := by rw [hst, List.take_left' (by simp [hk])]
  rw [← zcl_at hcm hr h1 h2 (as := .ref a :: as) (mm := mm)]
  unfold zq; rw [zR_op hd]; unfold zstp
  simp only [hO, Bool.false_eq_true, if_false, hI, e1, e2, z1r, ha, h12, List.reverse_reverse, true_and]
theorem oi_ireturn {x : Int32} {ty : FieldType} (hd : decode mm.2.1 pc = .ok (.ireturn, 1)) (hr : mm.2.2.2.1 = some ty) : zq d mm Q pc ls [.int x] σ ρ I L = (znw x ty ∧ Q (some (.int x)) σ ρ I L) := by
  unfold zq; rw [zR_op hd]; unfold zstp zret; simp only [hr, Nat.zero_le, true_and]
theorem oi_lreturn {x : Int64} (hd : decode mm.2.1 pc = .ok (.lreturn, 1)) (hr : mm.2.2.2.1 = some .long) : zq d mm Q pc ls [.long x] σ ρ I L = Q (some (.long x)) σ ρ I L := by
  unfold zq; rw [zR_op hd]; unfold zstp zret; simp only [hr, Nat.zero_le, true_and]
theorem oi_return (hd : decode mm.2.1 pc = .ok (.return_, 1)) (hr : mm.2.2.2.1 = none) : zq d mm Q pc ls [] σ ρ I L = Q none σ ρ I L := by
  unfold zq; rw [zR_op hd]; unfold zstp zret; simp only [hr, Nat.zero_le, true_and]
theorem oi_entry {as : List Value} (h : (zla as).length ≤ mm.2.2.1) (hl : zen mm.2.2.1 as = ls) : zW (d + 1) mm as σ ρ I L Q = zq d mm Q 0 ls [] σ ρ I L := by
  show (_ ∧ zR none (zW d) mm Q 0 (zen mm.2.2.1 as) [] 0 0 σ ρ I L) = _
  rw [hl]
  unfold zq
  simp only [h, true_and]
end ZO
