/-! THE CLASS: a town that is settled; a state; what is asked of them -/
/-- the reach of a seeker from a place of his habit (bits), and where it stops if nobody is there -/
def zRc (T : zT) (k i m st : Nat) : Prop := m < 64 ∧ st < 6 ∧ ∀ r, r < (tpn T).val → m / 2 ^ r % 2 = (if (tfi T k r i).1 = true then 1 else 0) ∧ ((tfi T k r i).1 = false → (tfi T k r i).2 = st)
/-- a settled town as the class keeps it -/
def zTc (T : zT) (x : Bool) (I : zIm) : Prop := (I (tc x 0) 0 = nI (tpn T) ∧ I (tc x 0) 1 = nI (tsn T) ∧ I (tc x 0) 2 = nI (tlw T) ∧ I (tc x 0) 4 = nI (tsm T (tpn T)) ∧ (∀ p, p < (tpn T).val → I (tc x 1) p = nI (thd T p))) ∧ (∀ p, p < (tpn T).val → I (tc x 2) p = nI (tnw T p) ∧ I (tc x 3) p = nI ((tbe T false p (tpn T)).getD p) ∧ I (tc x 4) p = nI ((tbe T true p (tpn T)).getD p)) ∧ (∀ i, i < (tpn T).val → ∃ j, j < (tpn T).val ∧ tor T i (tpn T) = some j ∧ I (tc x 5) i = nI j) ∧ (∀ k, k < (tsn T).val → I (tc x 6) k = nI (tmn T k) ∧ I (tc x 7) k = nI (tln T k) ∧ ∀ i, i < (tln T k).val → I (tc x (9 + k)) i = nI (thb T k i) ∧ ∃ m st, zRc T k i m st ∧ I (tc x (14 + k)) i = nI m ∧ I (tc x (19 + k)) i = nI st)
/-- a state's memory: ring, week, lot, where habits stop, had -/
def zcs (I : zIm) (s r w : Nat) (l : Int32) (n : Nat → Nat) (h : Nat → Int32) : zIm := fun a j => if a = sc s 0 then (if j = 0 then nI r else if j = 1 then nI w else if j = 2 then l else I a j) else if a = sc s 1 then (if j < 4 then nI (n j) else I a j) else if a = sc s 2 then (if j < 4 then h j else I a j) else I a j
theorem sc_01 {s : Nat} : ¬ sc s 1 = sc s 0 := by rw [sc_eqc (by decide) (by decide)]; decide
theorem sc_02 {s : Nat} : ¬ sc s 2 = sc s 0 := by rw [sc_eqc (by decide) (by decide)]; decide
theorem sc_12 {s : Nat} : ¬ sc s 2 = sc s 1 := by rw [sc_eqc (by decide) (by decide)]; decide
section ZC
variable {I : zIm} {s r w v : Nat} {l x : Int32} {n : Nat → Nat} {h : Nat → Int32}
theorem zcs_0 : zcs I s r w l n h (sc s 0) 0 = nI r := (if_pos rfl).trans (if_pos rfl)
theorem zcs_1 : zcs I s r w l n h (sc s 0) 1 = nI w := (if_pos rfl).trans ((if_neg (by decide)).trans (if_pos rfl))
theorem zcs_2 : zcs I s r w l n h (sc s 0) 2 = l := (if_pos rfl).trans ((if_neg (by decide)).trans ((if_neg (by decide)).trans (if_pos rfl)))
theorem zcs_3 : zcs I s r w l n h (sc s 0) 3 = I (sc s 0) 3 := (if_pos rfl).trans ((if_neg (by decide)).trans ((if_neg (by decide)).trans (if_neg (by decide))))
theorem zcs_n {j : Nat} (hj : j < 4) : zcs I s r w l n h (sc s 1) j = nI (n j) := (if_neg sc_01).trans ((if_pos rfl).trans (if_pos hj))
theorem zcs_h {j : Nat} (hj : j < 4) : zcs I s r w l n h (sc s 2) j = h j := (if_neg sc_02).trans ((if_neg sc_12).trans ((if_pos rfl).trans (if_pos hj)))
theorem zcs_r {a : Nat} (h0 : a ≠ sc s 0) (h1 : a ≠ sc s 1) (h2 : a ≠ sc s 2) : zcs I s r w l n h a = I a := by
  funext j; unfold zcs; rw [if_neg h0, if_neg h1, if_neg h2]
theorem zcs_t {x : Bool} {c : Nat} : zcs I s r w l n h (tc x c) = I (tc x c) := zcs_r (fun q => by rw [tc_sc] at q; exact q) (fun q => by rw [tc_sc] at q; exact q) (fun q => by rw [tc_sc] at q; exact q)
theorem zcs_g {a : Nat} (ha : a < 49 ∨ 80 < a ∨ 61 ≤ a ∧ a ≤ 68) : zcs I s r w l n h a = I a := zcs_r (fun q => by rw [q] at ha; have := sc_r s 0; omega) (fun q => by rw [q] at ha; have := sc_r s 1; omega) (fun q => by rw [q] at ha; have := sc_r s 2; omega)
theorem zcs_x {c : Nat} (h2 : 3 ≤ c) (h5 : c ≤ 5) : zcs I s r w l n h (sc s c) = I (sc s c) := zcs_r (fun q => by rw [sc_eqc h5 (by decide)] at q; omega) (fun q => by rw [sc_eqc h5 (by decide)] at q; omega) (fun q => by rw [sc_eqc h5 (by decide)] at q; omega)
theorem zcs_y {s' c : Nat} (h0 : s' ≠ s) (h1 : s' < 4) (h2 : s < 4) : zcs I s r w l n h (sc s' c) = I (sc s' c) := zcs_r (fun q => by rw [sc_ne h0 h1 h2] at q; exact q) (fun q => by rw [sc_ne h0 h1 h2] at q; exact q) (fun q => by rw [sc_ne h0 h1 h2] at q; exact q)
theorem zcs_u0 : zup (zcs I s r w l n h) (sc s 0) 0 (nI v) = zcs I s v w l n h := by
  funext a j; unfold zup zcs
  by_cases c : a = sc s 0
  · by_cases c2 : j = 0
    · rw [if_pos ⟨c, c2⟩, if_pos c, if_pos c2]
    · rw [if_neg (fun q => c2 q.2), if_pos c, if_pos c, if_neg c2, if_neg c2]
  · rw [if_neg (fun q => c q.1), if_neg c, if_neg c]
theorem zcs_u1 : zup (zcs I s r w l n h) (sc s 0) 1 (nI v) = zcs I s r v l n h := by
  funext a j; unfold zup zcs
  by_cases c : a = sc s 0
  · by_cases c2 : j = 1
    · rw [if_pos ⟨c, c2⟩, if_pos c, if_neg (by omega), if_pos c2]
    · rw [if_neg (fun q => c2 q.2), if_pos c, if_pos c]; simp only [if_neg c2]
  · rw [if_neg (fun q => c q.1), if_neg c, if_neg c]
theorem zcs_u2 : zup (zcs I s r w l n h) (sc s 0) 2 x = zcs I s r w x n h := by
  funext a j; unfold zup zcs
  by_cases c : a = sc s 0
  · by_cases c2 : j = 2
    · rw [if_pos ⟨c, c2⟩, if_pos c, if_neg (by omega), if_neg (by omega), if_pos c2]
    · rw [if_neg (fun q => c2 q.2), if_pos c, if_pos c]; simp only [if_neg c2]
  · rw [if_neg (fun q => c q.1), if_neg c, if_neg c]
theorem zcs_un {k : Nat} (hk : k < 4) : zup (zcs I s r w l n h) (sc s 1) k (nI v) = zcs I s r w l (pup n k v) h := by
  funext a j; unfold zup zcs pup
  by_cases c : a = sc s 1
  · rw [c]
    by_cases c2 : j = k
    · rw [if_pos ⟨rfl, c2⟩, if_neg sc_01, if_pos rfl, if_pos (by omega), if_pos c2]
    · rw [if_neg (fun q => c2 q.2)]; simp only [if_neg c2]
  · rw [if_neg (fun q => c q.1)]; simp only [if_neg c]
theorem zcs_uh {k : Nat} (hk : k < 4) : zup (zcs I s r w l n h) (sc s 2) k x = zcs I s r w l n (pup h k x) := by
  funext a j; unfold zup zcs pup
  by_cases c : a = sc s 2
  · rw [c]
    by_cases c2 : j = k
    · rw [if_pos ⟨rfl, c2⟩, if_neg sc_02, if_neg sc_12, if_pos rfl, if_pos (by omega), if_pos c2]
    · rw [if_neg (fun q => c2 q.2)]; simp only [if_neg c2]
  · rw [if_neg (fun q => c q.1)]; simp only [if_neg c]
end ZC
def zcsZ := And.intro @zcs_0 (And.intro @zcs_1 (And.intro @zcs_2 (And.intro @zcs_3 (And.intro @zcs_n (And.intro @zcs_h (And.intro @zcs_t (And.intro @zcs_g (And.intro @zcs_u0 (And.intro @zcs_u1 (And.intro @zcs_u2 (And.intro @zcs_un (@zcs_uh))))))))))))
/-- bits counted as Java counts them -/
def ush (x y : Int32) : Int32 := (x.toUInt32 >>> (y.toUInt32 &&& Int32.toUInt32 31)).toInt32
def bc1 (x : Int32) : Int32 := x - ((x.toUInt32 >>> ((nI 1).toUInt32 &&& Int32.toUInt32 31)).toInt32 &&& 1431655765)
def bc2 (x : Int32) : Int32 := (x &&& 858993459) + ((x.toUInt32 >>> ((nI 2).toUInt32 &&& Int32.toUInt32 31)).toInt32 &&& 858993459)
def bc3 (x : Int32) : Int32 := (x + (x.toUInt32 >>> ((nI 4).toUInt32 &&& Int32.toUInt32 31)).toInt32) &&& 252645135
def bc4 (x : Int32) : Int32 := x + (x.toUInt32 >>> ((nI 8).toUInt32 &&& Int32.toUInt32 31)).toInt32
def bc5 (x : Int32) : Int32 := (x + (x.toUInt32 >>> ((nI 16).toUInt32 &&& Int32.toUInt32 31)).toInt32) &&& nI 63
theorem b_cnt : ∀ m, m < 64 → bc5 (bc4 (bc3 (bc2 (bc1 (nI m))))) = nI (cnt m 8) := by decide +kernel
theorem va_rf_s {a : Nat} : va_rf (some a) = .ref a := rfl
/-- the places of a habit one behind the other -/
def tns (T : zT) (k i : Nat) : Nat → Nat
  | 0 => i
  | s + 1 => tnx T k (tns T k i s)
theorem tns_s (T : zT) (k i s : Nat) : tns T k i (s + 1) = tnx T k (tns T k i s) := rfl
theorem tns_m {T : zT} {k i : Nat} (h : i < (tln T k).val) : ∀ s, tns T k i s = (i + s) % (tln T k).val
  | 0 => (Nat.mod_eq_of_lt h).symm
  | s + 1 => by
    rw [tns_s, ← tnx_m (by rw [tns_m h s]; exact Nat.mod_lt _ (by omega)), tns_m h s, Nat.mod_add_mod]; rfl
theorem tns_lt {T : zT} {k i : Nat} (h : i < (tln T k).val) (s : Nat) : tns T k i s < (tln T k).val := by rw [tns_m h]; exact Nat.mod_lt _ (by omega)
theorem tns_l {T : zT} {k i s : Nat} (h : i < (tln T k).val) (hs : (tln T k).val ≤ s) : tns T k i (s - (tln T k).val) = tns T k i s := by
  rw [tns_m h, tns_m h]
  rw [show i + s = i + (s - (tln T k).val) + (tln T k).val by omega, Nat.add_mod_right]
theorem tns_h {T : zT} {k i : Nat} : ∀ s, tns T k (tnx T k i) s = tns T k i (s + 1)
  | 0 => rfl
  | s + 1 => by rw [tns_s, tns_h s]; rfl
/-- a walk that finds stops behind the first place that is it -/
theorem twk_f {T : zT} {k r : Nat} : ∀ f left i, (twk T k r f left i).1 = true → ∃ s, (∀ j, j < s → (thb T k (tns T k i j)).val ≠ r) ∧ (thb T k (tns T k i s)).val = r ∧ (twk T k r f left i).2 = tnx T k (tns T k i s)
  | 0, _, _, h => Bool.noConfusion h
  | f + 1, left, i, h => by
    rw [twk_s] at h ⊢
    by_cases c : left < (thd T (thb T k i)).val
    · rw [if_pos c] at h; exact Bool.noConfusion h
    · rw [if_neg c] at h ⊢
      by_cases c2 : (thb T k i).val = r
      · rw [if_pos c2]; exact ⟨0, fun j hj => absurd hj (Nat.not_lt_zero j), c2, rfl⟩
      · rw [if_neg c2] at h ⊢
        obtain ⟨s, h1, h2, h3⟩ := twk_f f _ _ h
        refine ⟨s + 1, fun j hj => ?_, by rw [← tns_h]; exact h2, by rw [h3, tns_h]⟩
        cases j with
        | zero => exact c2
        | succ j => rw [← tns_h]; exact h1 j (by omega)
theorem tfi_f {T : zT} {k r i : Nat} (hi : i < (tln T k).val) (h : (tfi T k r i).1 = true) : ∃ s, s < (tln T k).val ∧ (∀ j, j < s → (thb T k (tns T k i j)).val ≠ r) ∧ (thb T k (tns T k i s)).val = r ∧ (tfi T k r i).2 = tnx T k (tns T k i s) := by
  obtain ⟨s, h1, h2, h3⟩ := twk_f _ _ _ h
  refine ⟨s, ?_, h1, h2, h3⟩
  by_cases c : s < (tln T k).val
  · exact c
  · have := h1 (s - (tln T k).val) (by omega)
    rw [tns_l hi (by omega)] at this
    exact absurd h2 this
section S
variable {d : Nat} {Q : zPo} {σ : zSh} {ρ : zRf} {I : zIm} {L : zLm} {b x : Bool} {T : zT} {m : Nat}
theorem k_bits (hm : m < 64) : zW (d + 1) mJ6_bitCount_0f7a4 [.int (nI m)] σ ρ I L Q = Q (some (.int (nI (cnt m 8)))) σ ρ I L := by
  simp only [nJ6_bitCount_0f7a4, bJ6_bitCount_0f7a4]
  exact congrArg (fun v => Q (some (.int v)) σ ρ I L) (b_cnt m hm)
theorem k_isPlace {p : Int32} (h0 : I (tc x 0) 0 = nI (tpn T)) : zW (d + 1) mX9_isPlace [.ref (tc x 0), .int p] sg (rg b) I L Q = Q (some (.int (if nI 0 ≤ p ∧ p < nI (tpn T) then nI 1 else nI 0))) sg (rg b) I L := by
  simp only [nX9_isPlace, bX9_isPlace, h0, zZ]
  by_cases c : p < nI 0
  · rw [if_pos c, if_neg (fun q => Int32.not_lt.2 q.1 c)]
  · rw [if_neg c]
    by_cases c2 : nI (tpn T) ≤ p
    · rw [if_pos c2, if_neg (fun q => Int32.not_le.2 q.2 c2)]
    · rw [if_neg c2, if_pos ⟨Int32.not_lt.1 c, Int32.not_le.1 c2⟩]
theorem k_isSeeker {p : Int32} (h0 : I (tc x 0) 1 = nI (tsn T)) : zW (d + 1) mX9_isSeeker [.ref (tc x 0), .int p] sg (rg b) I L Q = Q (some (.int (if nI 0 ≤ p ∧ p < nI (tsn T) then nI 1 else nI 0))) sg (rg b) I L := by
  simp only [nX9_isSeeker, bX9_isSeeker, h0, zZ]
  by_cases c : p < nI 0
  · rw [if_pos c, if_neg (fun q => Int32.not_lt.2 q.1 c)]
  · rw [if_neg c]
    by_cases c2 : nI (tsn T) ≤ p
    · rw [if_pos c2, if_neg (fun q => Int32.not_le.2 q.2 c2)]
    · rw [if_neg c2, if_pos ⟨Int32.not_lt.1 c, Int32.not_le.1 c2⟩]
theorem k_finds {k i r : Nat} (hT : zTc T x I) (hk : k < (tsn T).val) (hi : i < (tln T k).val) (hr : r < (tpn T).val) : zW (d + 1) mX9_finds [.ref (tc x 0), .int (nI k), .int (nI i), .int (nI r)] sg (rg b) I L Q = Q (some (.int (if (tfi T k r i).1 = true then nI 1 else nI 0))) sg (rg b) I L := by
  obtain ⟨-, -, -, hK⟩ := hT
  obtain ⟨h6, h7, h8⟩ := hK k hk
  obtain ⟨h9, m, st, ⟨hm, hst, hz⟩, h14, h19⟩ := h8 i hi
  simp (disch := omega) only [nX9_finds, bX9_finds, zZ, rg_tr, va_rf_s, h14, b_tst, (hz r hr).1]
  by_cases c : (tfi T k r i).1 = true
  · simp (disch := omega) only [c, zZ, if_true, if_neg]
  · simp (disch := omega) only [c, zZ, if_false, Bool.false_eq_true]
theorem k_behind {k i : Nat} (hT : zTc T x I) (hk : k < (tsn T).val) (hi : i < (tln T k).val) : zW (d + 1) mX9_behind [.ref (tc x 0), .int (nI k), .int (nI i)] sg (rg b) I L Q = Q (some (.int (nI (tnx T k i)))) sg (rg b) I L := by
  obtain ⟨-, -, -, hK⟩ := hT
  obtain ⟨h6, h7, h8⟩ := hK k hk
  unfold tnx
  by_cases c : i + 1 < (tln T k).val
  · simp (disch := omega) only [nX9_behind, bX9_behind, zZ, h7, if_pos, if_neg]
  · simp (disch := omega) only [nX9_behind, bX9_behind, zZ, h7, if_pos, if_neg]
theorem k_stopsAt {k i r : Nat} (hT : zTc T x I) (hk : k < (tsn T).val) (hi : i < (tln T k).val) (hr : r < (tpn T).val) : zW (d + 2) mX9_stopsAt [.ref (tc x 0), .int (nI k), .int (nI i), .int (nI r)] sg (rg b) I L Q = Q (some (.int (nI (tfi T k r i).2))) sg (rg b) I L := by
  have hT' := hT
  obtain ⟨-, -, -, hK⟩ := hT
  obtain ⟨h6, h7, h8⟩ := hK k hk
  obtain ⟨h9, m, st, ⟨hm, hst, hz⟩, h14, h19⟩ := h8 i hi
  by_cases c : (tfi T k r i).1 = true
  · obtain ⟨s, s1, s2, s3, s4⟩ := tfi_f hi c
    have hl : ∀ j, j ≤ s → zq (d + 1) mX9_stopsAt Q 25 [some (.ref (tc x 0)), some (.int (nI k)), some (.int (nI i)), some (.int (nI r)), some (.int (nI (tns T k i j))), some (.int (nI j))] [] sg (rg b) I L = Q (some (.int (nI (tfi T k r i).2))) sg (rg b) I L := by
      refine z_down s ?_ (fun j hj ih => ?_)
      · have h10 := (h8 _ (tns_lt hi s)).1
        have hlt := tns_lt hi s
        rw [eX9_stopsAt_25, s4]
        simp (disch := omega) only [bX9_stopsAt, zZ, h7, rg_tr, va_rf_s, h10, s3, if_pos, if_neg, k_behind hT' hk hlt]
      · have h10 := (h8 _ (tns_lt hi j)).1
        have hlt := tns_lt hi j
        have hne := s2 j hj
        rw [eX9_stopsAt_25]
        simp (disch := omega) only [bX9_stopsAt, zZ, h7, rg_tr, va_rf_s, h10, hne, if_pos, if_neg, k_behind hT' hk hlt]
        exact ih
    simp (disch := omega) only [nX9_stopsAt, bX9_stopsAt, zZ, k_finds hT' hk hi hr, c, if_true, if_neg]
    exact hl 0 (Nat.zero_le _)
  · have hz2 := (hz r hr).2 (Bool.not_eq_true _ ▸ c)
    simp (disch := omega) only [nX9_stopsAt, bX9_stopsAt, zZ, k_finds hT' hk hi hr, c, if_false, if_pos, rg_tr, va_rf_s, h19, hz2, Bool.false_eq_true]
end S
