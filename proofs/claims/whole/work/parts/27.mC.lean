/-! THE MODEL: type, weeks played -/
/-- the k-th byte of a long -/
def lby (v : Int64) (k : Nat) : Nat := v.toBitVec.toNat / 2 ^ (8 * k) % 256
theorem lby_lt (v : Int64) (k : Nat) : lby v k < 256 := Nat.mod_lt _ (by decide)
theorem lby_sh : ∀ k, k < 8 → (((nI (8 * k)).toInt64 &&& 63).toBitVec.smod 64) = BitVec.ofNat 64 (8 * k) := by decide +kernel
theorem lby_us : ∀ k, k < 8 → (((nI (8 * k)).toInt64.toUInt64 &&& Int64.toUInt64 63).toBitVec % 64) = BitVec.ofNat 64 (8 * k) := by decide +kernel
theorem lby_b (v : Int64) {k i : Nat} : (lby v k).testBit i = (decide (i < 8) && v.toBitVec.getLsbD (8 * k + i)) := by
  unfold lby
  rw [show (256 : Nat) = 2 ^ 8 from rfl, Nat.testBit_mod_two_pow, Nat.testBit_div_two_pow, Nat.add_comm i]; rfl
theorem lby_255 : ∀ i, i < 32 → (Int64.toBitVec 255).getLsbD i = decide (i < 8) := by decide +kernel
theorem lby_255i : ∀ i, i < 32 → (nI 255).toBitVec.getLsbD i = decide (i < 8) := by decide +kernel
theorem lby_n (n : Nat) : (nI n).toBitVec = BitVec.ofNat 32 n := rfl
theorem lby_m (v : Int64) {k : Nat} (hk : k < 8) : ((v >>> ((nI (8 * k)).toInt64 &&& 63)) &&& 255).toInt32 = nI (lby v k) := by
  apply Int32.toBitVec_inj.1
  apply BitVec.eq_of_getLsbD_eq
  intro i hi
  have h1 : (v >>> ((nI (8 * k)).toInt64 &&& 63)).toBitVec = v.toBitVec.sshiftRight (8 * k) := by
    rw [Int64.toBitVec_shiftRight, lby_sh k hk, BitVec.sshiftRight_eq', BitVec.toNat_ofNat, Nat.mod_eq_of_lt (by omega)]
  rw [Int64.toBitVec_toInt32, BitVec.getLsbD_signExtend, Int64.toBitVec_and, BitVec.getLsbD_and, h1, BitVec.getLsbD_sshiftRight, lby_255 i hi, lby_n, BitVec.getLsbD_ofNat, lby_b]
  have e1 : decide (i < 32) = true := decide_eq_true hi
  have e2 : decide (64 ≤ i) = false := decide_eq_false (by omega)
  rw [e1, e2, if_pos (show i < 64 by omega)]
  by_cases h8 : i < 8
  · rw [if_pos (show 8 * k + i < 64 by omega)]
    simp [h8]
  · simp [h8]
theorem lby_c (v : Int64) {k : Nat} (hk : k < 8) : ((v.toUInt64 >>> ((nI (8 * k)).toInt64.toUInt64 &&& Int64.toUInt64 63)).toInt64.toInt32 &&& nI 255) = nI (lby v k) := by
  apply Int32.toBitVec_inj.1
  apply BitVec.eq_of_getLsbD_eq
  intro i hi
  have h1 : (v.toUInt64 >>> ((nI (8 * k)).toInt64.toUInt64 &&& Int64.toUInt64 63)).toBitVec = v.toBitVec >>> (8 * k) := by
    rw [UInt64.toBitVec_shiftRight, lby_us k hk, BitVec.ushiftRight_eq', BitVec.toNat_ofNat, Nat.mod_eq_of_lt (by omega)]; rfl
  have h2 : (v.toUInt64 >>> ((nI (8 * k)).toInt64.toUInt64 &&& Int64.toUInt64 63)).toInt64.toBitVec = v.toBitVec >>> (8 * k) := h1
  rw [Int32.toBitVec_and, BitVec.getLsbD_and, Int64.toBitVec_toInt32, h2, BitVec.getLsbD_signExtend, BitVec.getLsbD_ushiftRight, lby_255i i hi, lby_n, BitVec.getLsbD_ofNat, lby_b]
  have e1 : decide (i < 32) = true := decide_eq_true hi
  rw [e1, if_pos (show i < 64 by omega)]
  by_cases h8 : i < 8 <;> simp [h8]
section S
variable {d : Nat} {Q : zPo} {I : zIm} {L : zLm} {b : Bool}
theorem m_type {v : Int64} {n : Int32} {t : Nat} (ht : I 87 3 = nI t) (ht2 : t ≤ 200) : zW (d + 2) mX11_type [.ref 87, .long v, .int n] sg (rg b) I L Q =
    if 1 ≤ n.toInt ∧ n.toInt ≤ 8 then (if 200 < t + n.toInt.toNat then Q (some (.int (-3))) sg (rg b) I L else Q (some (.int (nI (t + n.toInt.toNat)))) sg (rg b) (zup (fil I 88 t (fun i => nI (lby v (n.toInt.toNat - (i + 1)))) n.toInt.toNat) 87 3 (nI (t + n.toInt.toNat))) L)
    else Q (some (.int (-1))) sg (rg b) I L := by
  by_cases hp : 1 ≤ n.toInt ∧ n.toInt ≤ 8
  · rw [if_pos hp]
    obtain ⟨m, hm, rfl⟩ := v_of (n := 9) (v := n) (by omega) (by omega)
    have hm1 : 1 ≤ m := by have := hp.1; rw [nI_toInt (by omega)] at this; omega
    simp (disch := omega) only [Int.toNat_natCast, nI_toInt]
    by_cases hf : 200 < t + m
    · rw [if_pos hf]
      simp (disch := omega) only [nX11_type, bX11_type, zZ, s_in, if_pos, if_neg, ht]
    · rw [if_neg hf]
      have h : ∀ j, j ≤ m → zq (d + 1) mX11_type Q 32 [some (.ref 87), some (.long v), none, some (.int (nI m)), some (.int (nI m - nI (j + 1)))] [] sg (rg b) (zup (fil I 88 t (fun i => nI (lby v (m - (i + 1)))) j) 87 3 (nI (t + j))) L = Q (some (.int (nI (t + m)))) sg (rg b) (zup (fil I 88 t (fun i => nI (lby v (m - (i + 1)))) m) 87 3 (nI (t + m))) L := by
        refine z_down m ?_ ?_
        · rw [eX11_type_32]
          have := pk_sneg (a := m) (b := m + 1) (by omega) (by omega)
          rw [← nI_0] at this
          simp (disch := omega) only [bX11_type, zZ, this, if_pos]
        · intro j hj ih
          rw [eX11_type_32]
          have e : nI m - nI (j + 1 + 1) = nI m - nI (j + 1) + -1 := by
            rw [nI_succ (j + 1), Int32.sub_eq_add_neg, Int32.sub_eq_add_neg, Int32.neg_add, Int32.sub_eq_add_neg (-nI (j + 1)), Int32.add_assoc]
          rw [e] at ih
          simp (disch := omega) only [pk_sub] at ih ⊢
          have e2 := @fil_s Int32 I 88 t j (fun i => nI (lby v (m - (i + 1))))
          simp (disch := omega) only [bX11_type, zZ, if_pos, if_neg, zup_sw, lby_m, zup_c, zup_k, fil_r, e2, Nat.add_assoc, ih]
      simp (disch := omega) only [nX11_type, bX11_type, zZ, s_in, if_pos, if_neg, ht]
      have h0 := h 0 (Nat.zero_le _)
      simp only [fil_0, Nat.add_zero, Nat.zero_add, zup_id ht] at h0
      exact h0
  · rw [if_neg hp]
    simp (disch := omega) only [nX11_type, bX11_type, zZ, s_in, zV3, if_pos, if_neg]
end S
section S2
variable {d : Nat} {Q : zPo} {I : zIm} {L : zLm} {b : Bool} {T : zT} {S : zU} {nx : Nat → Nat} {r : Nat}
theorem s_starts1 (hS : ∀ k, k < 4 → I 91 (2 + k) = nI (nx k)) : zW (d + 1) mX11_starts [.ref 87, .int (nI r), .int (nI 1)] sg (rg b) I L Q = Q none sg (rg b) (zpm I nx r (I 87 1) (I 87 15)) L := by
  have h : ∀ k, k ≤ 4 → zq d mX11_starts Q 7 [some (.ref 87), some (.int (nI r)), some (.int (nI 1)), some (.int (nI k))] [] sg (rg b) (fil (zup I 87 13 (nI r)) 94 0 (fun k => nI (nx k)) k) L = Q none sg (rg b) (zpm I nx r (I 87 1) (I 87 15)) L := by
    refine z_down 4 ?_ ?_
    · rw [eX11_starts_7, zpm_fil]
      simp (disch := omega) only [bX11_starts, zZ, if_pos]
    · intro k hk ih
      rw [eX11_starts_7]
      rw [← fil_s0] at ih
      simp (disch := omega) only [bX11_starts, zZ, if_neg, fil_r, zup_r, hS]
      exact ih
  simp only [nX11_starts, bX11_starts]
  have h0 := h 0 (by decide)
  rw [fil_0] at h0
  exact h0
theorem s_starts0 : zW (d + 1) mX11_starts [.ref 87, .int (nI r), .int (nI 0)] sg (rg b) I L Q = Q none sg (rg b) (zpm I (fun _ => 0) r (I 87 1) (I 87 15)) L := by
  have h : ∀ k, k ≤ 4 → zq d mX11_starts Q 7 [some (.ref 87), some (.int (nI r)), some (.int (nI 0)), some (.int (nI k))] [] sg (rg b) (fil (zup I 87 13 (nI r)) 94 0 (fun _ => nI 0) k) L = Q none sg (rg b) (zpm I (fun _ => 0) r (I 87 1) (I 87 15)) L := by
    refine z_down 4 ?_ ?_
    · rw [eX11_starts_7, zpm_fil (nx := fun _ => 0)]
      simp (disch := omega) only [bX11_starts, zZ, if_pos]
    · intro k hk ih
      rw [eX11_starts_7]
      rw [← fil_s0] at ih
      simp (disch := omega) only [bX11_starts, zZ, if_neg, if_pos, fil_r, zup_r]
      exact ih
  simp only [nX11_starts, bX11_starts]
  have h0 := h 0 (by decide)
  rw [fil_0] at h0
  exact h0
theorem s_firstWeek (hT : zTo T (I 89)) (hw : zTw T) (hS : ∀ k, k < 4 → I 91 (2 + k) = nI (nx k)) (hr : r < (tpn T).val) (hn : tnk T nx) (hQ : ∀ I', kq I I' → Q (some (.int (zfn (tli T 0 50 1 nx r (I 87 1))))) sg (rg b) I' L) : zW (d + 4) mX11_firstWeek [.ref 87, .int (nI r)] sg (rg b) I L Q := by
  have h : ∀ f w nx' r' fd, f + w = 51 → r' < (tpn T).val → tnk T nx' → tli T 0 50 1 nx r (I 87 1) = tli T 0 f w nx' r' (I 87 1) → zq (d + 3) mX11_firstWeek Q 13 [some (.ref 87), some (.int (nI r)), some (.int (nI w))] [] sg (rg b) (zpm (zup I 87 16 (nI 0)) nx' r' (I 87 1) fd) L := by
    intro f
    induction f with
    | zero =>
      intro w nx' r' fd hf hr' hn' e
      rw [eX11_firstWeek_13]
      simp (disch := omega) only [bX11_firstWeek, zZ, if_pos]
      rw [e] at hQ
      exact hQ _ (kq_t (kq_u (j := 16) (v := nI 0) (by decide) (by decide)) (kq_m (I := zup I 87 16 (nI 0))))
    | succ f ih =>
      intro w nx' r' fd hf hr' hn' e
      have hT' : zTo T (zup I 87 16 (nI 0) 89) := by rw [zup_r (by decide)]; exact hT
      rw [eX11_firstWeek_13]
      have h16 := tpw_16 (law := 0) (lot := I 87 1) hr' hn'
      have hok := tpw_ok (law := 0) (lot := I 87 1) hr' hn'
      have hlot := tpw_lot (T := T) (law := 0) (nx := nx') (r := r') (lot := I 87 1) (by decide)
      have h4 := cnt_le (tpw T 0 nx' r' (I 87 1)).2.2.2 4
      have hc := cnt4_0 _ h16
      simp (disch := omega) only [bX11_firstWeek, zZ, if_neg, s_plays hT' hw hr' hn' (show zup I 87 16 (nI 0) 87 16 = nI 0 from zup_s) (by decide)]
      rw [tli_s T 0 f] at e
      simp only [hlot] at e ⊢
      by_cases c : (tpw T 0 nx' r' (I 87 1)).2.2.2 = 0
      · rw [if_pos c] at e
        simp (disch := omega) only [if_pos]
        exact ih _ _ _ _ (by omega) hok.1 hok.2.1 e
      · rw [if_neg c] at e
        simp (disch := omega) only [if_neg]
        rw [e] at hQ
        exact hQ _ (kq_t (kq_u (j := 16) (v := nI 0) (by decide) (by decide)) (kq_m (I := zup I 87 16 (nI 0))))
  simp (disch := omega) only [nX11_firstWeek, bX11_firstWeek, zZ, s_starts1 hS, zpm_u16]
  exact h 50 1 nx r _ rfl hr hn rfl
def r_lies (T : zT) (nx : Nat → Nat) (lot : Int32) (p : Int32) : Int32 := if 0 ≤ p.toInt ∧ p.toInt < ((tpn T).val : Int) then zfn (tli T 0 50 1 nx p.toInt.toNat lot) else -1
theorem m_lies {p : Int32} (hT : zTo T (I 89)) (hw : zTw T) (hS : ∀ k, k < 4 → I 91 (2 + k) = nI (nx k)) (hn : tnk T nx) (hQ : ∀ I', kq I I' → Q (some (.int (r_lies T nx (I 87 1) p))) sg (rg b) I' L) : zW (d + 5) mX11_lies [.ref 87, .int p] sg (rg b) I L Q := by
  unfold r_lies at hQ
  by_cases hp : 0 ≤ p.toInt ∧ p.toInt < ((tpn T).val : Int)
  · rw [if_pos hp] at hQ
    obtain ⟨j, hj, rfl⟩ := v_of (by omega) hp
    simp (disch := omega) only [nI_toInt, Int.toNat_natCast] at hQ
    simp (disch := omega) only [nX11_lies, bX11_lies, zZ, s_isPlace hT.1, if_pos, if_neg]
    refine s_firstWeek hT hw hS hj hn (fun I' hI' => ?_)
    simp only [zZ, bX11_lies]
    exact hQ I' hI'
  · rw [if_neg hp] at hQ
    simp (disch := omega) only [nX11_lies, bX11_lies, zZ, s_isPlace hT.1, zV3, if_pos, if_neg]
    exact hQ I kq_i
theorem m_longest (hT : zTo T (I 89)) (hw : zTw T) (hS : ∀ k, k < 4 → I 91 (2 + k) = nI (nx k)) (hn : tnk T nx) (hQ : ∀ I', kq I I' → Q (some (.int (zfn (tlo (tlw51 T nx (I 87 1)) (tpn T)).1))) sg (rg b) I' L) : zW (d + 5) mX11_longest [.ref 87] sg (rg b) I L Q := by
  have h : ∀ p, p ≤ (tpn T).val → ∀ I', kq I I' → ∀ l4, zq (d + 4) mX11_longest Q 7 [some (.ref 87), some (.int (zfn (tlo (tlw51 T nx (I 87 1)) p).1)), some (.int (nI (tlo (tlw51 T nx (I 87 1)) p).2)), some (.int (nI p)), l4] [] sg (rg b) I' L := by
    refine z_down _ ?_ ?_
    · intro I' hI' l4
      have h0 : I' 89 0 = nI (tpn T) := by rw [hI'.1.1 89 (by decide) (by decide) (by decide) (by decide) (by decide) (by decide)]; exact hT.1
      rw [eX11_longest_7]
      simp (disch := omega) only [bX11_longest, zZ, h0, if_pos]
      exact hQ I' hI'
    · intro p hp ih I' hI' l4
      have e89 : I' 89 = I 89 := hI'.1.1 89 (by decide) (by decide) (by decide) (by decide) (by decide) (by decide)
      have h0 : I' 89 0 = nI (tpn T) := by rw [e89]; exact hT.1
      rw [eX11_longest_7]
      simp (disch := omega) only [bX11_longest, zZ, h0, if_neg]
      refine s_firstWeek (T := T) (nx := nx) (by rw [e89]; exact hT) hw (fun k hk => by rw [hI'.2.1]; exact hS k hk) hp hn (fun I'' hI'' => ?_)
      have e1 : I' 87 1 = I 87 1 := hI'.2.2
      rw [e1]
      have hl := @tlo_le (tlw51 T nx (I 87 1)) (fun p => (tlw51_le).2) p
      have hl2 := @tlw51_le T nx (I 87 1) p
      rw [tlo_s] at ih
      have hk := kq_t hI' hI''
      cases c : tli T 0 50 1 nx p (I 87 1) with
      | none =>
        have c' : tlw51 T nx (I 87 1) p = 51 := by unfold tlw51; rw [c]; rfl
        rw [c'] at ih
        by_cases v : (tlo (tlw51 T nx (I 87 1)) p).2 < 51
        · rw [if_pos v] at ih
          simp only [zfn_s] at ih
          simp (disch := omega) only [zZ, bX11_longest, zfn_n, if_pos, if_neg]
          exact ih _ hk _
        · rw [if_neg v] at ih
          simp (disch := omega) only [zZ, bX11_longest, zfn_n, if_pos, if_neg]
          exact ih _ hk _
      | some x =>
        have c' : tlw51 T nx (I 87 1) p = x := by unfold tlw51; rw [c]; rfl
        rw [c'] at ih hl2
        by_cases v : (tlo (tlw51 T nx (I 87 1)) p).2 < x
        · rw [if_pos v] at ih
          simp only [zfn_s] at ih
          simp (disch := omega) only [zZ, bX11_longest, zfn_s, nI_m9, if_pos, if_neg]
          exact ih _ hk _
        · rw [if_neg v] at ih
          simp (disch := omega) only [zZ, bX11_longest, zfn_s, nI_m9, if_pos, if_neg]
          exact ih _ hk _
  simp (disch := omega) only [nX11_longest, bX11_longest]
  exact h 0 (Nat.zero_le _) I kq_i none
theorem m_looks {k p : Int32} (hT : zTo T (I 89)) (hS : zSo T S (I 91)) (hr : 0 < (tpn T).val → srg S < (tpn T).val)
    (hQ : if (0 ≤ k.toInt ∧ k.toInt < ((tsn T).val : Int)) ∧ (0 ≤ p.toInt ∧ p.toInt < ((tpn T).val : Int)) then (if p = nI (srg S) then (∀ I', kp I I' → I' 91 = pup (pup (I 91) (6 + k.toInt.toNat) (shd S k.toInt.toNat + nI 1)) 0 (nI (thi T (tlw T) (srg S) (I 87 1)).1) → I' 87 1 = (thi T (tlw T) (srg S) (I 87 1)).2 → Q (some (.int (nI (thi T (tlw T) (srg S) (I 87 1)).1))) sg (rg b) I' L) else Q (some (.int (-9))) sg (rg b) I L) else Q (some (.int (-1))) sg (rg b) I L) :
    zW (d + 5) mX11_looks [.ref 87, .int k, .int p] sg (rg b) I L Q := by
  have hT0 := hT
  obtain ⟨h0, h1, h2, h3, h4, h5, h6⟩ := hT
  obtain ⟨g0, g1, g2, g3, g4, g5, g6, g7⟩ := hS
  by_cases hk : (0 ≤ k.toInt ∧ k.toInt < ((tsn T).val : Int))
  · by_cases hp : (0 ≤ p.toInt ∧ p.toInt < ((tpn T).val : Int))
    · rw [if_pos ⟨hk, hp⟩] at hQ
      obtain ⟨j, hj, rfl⟩ := v_of (by omega) hk
      obtain ⟨q, hq, rfl⟩ := v_of (by omega) hp
      have hr' := hr (by omega)
      have hz : zrv T (srg S) = nI (srg S) := if_neg (by omega)
      rw [hz] at g0
      simp (disch := omega) only [nI_toInt, Int.toNat_natCast, nI_eq] at hQ
      by_cases e : q = srg S
      · rw [if_pos e] at hQ
        subst e
        simp (disch := omega) only [nX11_looks, bX11_looks, zZ, s_isPlace h0, s_isSeeker h1, g0, g3, if_pos, if_neg, zup_r, h2]
        rw [zpm_of (I := zup (zup (zup I 91 (6 + j) (shd S j + nI 1)) 87 16 (nI (tlw T))) 87 13 (nI (srg S))) (r := srg S) zup_s]
        simp (disch := omega) only [zup_c, zup_k]
        rw [s_hides (T := T) (how := (tlw T).val) (by rw [zup_r (by decide), zup_r (by decide), zup_r (by decide)]; exact hT0) hr' (by rw [zup_k (by decide)]; exact zup_s) (by omega)]
        simp (disch := omega) only [zZ, bX11_looks, zpm_13, zup_c]
        refine hQ _ ⟨fun a n1 n2 n3 n4 n5 n6 => ?_, ?_⟩ ?_ ?_
        · rw [zup_r n2, zpm_r n4 n1, zup_r n1, zup_r n1, zup_r n2]
        · rw [zup_c (by decide), zpm_87 (by decide) (by decide) (by decide), zup_k (by decide), zup_k (by decide), zup_c (by decide)]
        · rw [zup_row, zpm_r (by decide) (by decide), zup_r (by decide), zup_r (by decide), zup_row]
        · rw [zup_c (by decide), zpm_1]
      · rw [if_neg e] at hQ
        simp (disch := omega) only [nX11_looks, bX11_looks, zZ, s_isPlace h0, s_isSeeker h1, g0, if_pos, if_neg]
        exact hQ
    · rw [if_neg (fun q => hp q.2)] at hQ
      obtain ⟨j, hj, rfl⟩ := v_of (by omega) hk
      simp (disch := omega) only [nX11_looks, bX11_looks, zZ, s_isPlace h0, s_isSeeker h1, zV3, if_pos, if_neg]
      exact hQ
  · rw [if_neg (fun q => hk q.1)] at hQ
    simp (disch := omega) only [nX11_looks, bX11_looks, zZ, s_isPlace h0, s_isSeeker h1, zV3, if_pos, if_neg]
    exact hQ
/-- the row of NOW when a week went by, the first k seekers done -/
def wrw (f : Nat → Int32) (nx' : Nat → Nat) (fd : Nat) : Nat → Nat → Int32
  | 0 => f
  | k + 1 => pup (pup (wrw f nx' fd k) (2 + k) (nI (nx' k))) (6 + k) (wrw f nx' fd k (6 + k) + nI (fd / 2 ^ k % 2))
theorem wrw_s (f : Nat → Int32) (nx' : Nat → Nat) (fd k : Nat) : wrw f nx' fd (k + 1) = pup (pup (wrw f nx' fd k) (2 + k) (nI (nx' k))) (6 + k) (wrw f nx' fd k (6 + k) + nI (fd / 2 ^ k % 2)) := rfl
theorem m_week (hT : zTo T (I 89)) (hw : zTw T) (hS : zSo T S (I 91)) (hSw : zSw T S)
    (hQ : if (swk S).val = 99 ∨ (tpn T).val = 0 then Q (some (.int (-2))) sg (rg b) I L else ∀ I', kp I I' → I' 91 = wrw (pup (pup (I 91) 0 (nI (tpw T (tlw T) (snx S) (srg S) (I 87 1)).2.1)) 1 (nI ((swk S).val + 1))) (tpw T (tlw T) (snx S) (srg S) (I 87 1)).1 (tpw T (tlw T) (snx S) (srg S) (I 87 1)).2.2.2 (tsn T) → I' 87 1 = (tpw T (tlw T) (snx S) (srg S) (I 87 1)).2.2.1 → Q (some (.int (nI (cnt (tpw T (tlw T) (snx S) (srg S) (I 87 1)).2.2.2 4)))) sg (rg b) I' L) :
    zW (d + 5) mX11_week [.ref 87] sg (rg b) I L Q := by
  have hT0 := hT
  obtain ⟨h0, h1, h2, h3, h4, h5, h6⟩ := hT
  obtain ⟨g0, g1, g2, g3, g4, g5, g6, g7⟩ := hS
  by_cases c : (swk S).val = 99 ∨ (tpn T).val = 0
  · rw [if_pos c] at hQ
    simp (disch := omega) only [nX11_week, bX11_week, zZ, g1, h0]
    by_cases c1 : (swk S).val = 99
    · simp only [c1, zZ]; exact hQ
    · have c2 : (tpn T).val = 0 := by omega
      simp only [c1, c2, zZ]; exact hQ
  · rw [if_neg c] at hQ
    have c1 : ¬ (swk S).val = 99 := fun q => c (Or.inl q)
    have c2 : ¬ (tpn T).val = 0 := fun q => c (Or.inr q)
    have hr := hSw.1 (by omega)
    have hn := hSw.2.1
    rw [show zrv T (srg S) = nI (srg S) from if_neg c2] at g0
    have hok := tpw_ok (law := (tlw T).val) (lot := I 87 1) hr hn
    have h16 := tpw_16 (law := (tlw T).val) (lot := I 87 1) hr hn
    simp (disch := omega) only [nX11_week, bX11_week, zZ, g1, h0, c1, c2, g0, s_starts1 g2, zpm_r, h2, zpm_u16]
    have hT' : zTo T (zup I 87 16 (nI (tlw T)) 89) := by rw [zup_r (by decide)]; exact hT0
    simp (disch := omega) only [s_plays hT' hw hr hn (show zup I 87 16 (nI (tlw T)) 87 16 = nI (tlw T) from zup_s), zZ, bX11_week, zpm_13]
    generalize tpw T (tlw T) (snx S) (srg S) (I 87 1) = P at hQ hok h16 ⊢
    have g1' : I 91 1 = nI (swk S) := g1
    simp (disch := omega) only [zup_k, zpm_r, zup_r, g1', nI_add, zup_rw (c := 91)]
    have h : ∀ k, k ≤ (tsn T).val → zq (d + 4) mX11_week Q 71 [some (.ref 87), some (.int (nI (cnt P.2.2.2 4))), some (.int (nI k))] [] sg (rg b) (zrw (zpm (zup I 87 16 (nI (tlw T))) P.1 P.2.1 P.2.2.1 (nI P.2.2.2)) 91 (wrw (pup (pup (I 91) 0 (nI P.2.1)) 1 (nI ((swk S).val + 1))) P.1 P.2.2.2 k)) L := by
      refine z_down _ ?_ ?_
      · rw [eX11_week_71]
        simp (disch := omega) only [bX11_week, zZ, zrw_r, zpm_r, zup_r, h1, if_pos]
        refine hQ _ ⟨fun a n1 n2 n3 n4 n5 n6 => ?_, ?_⟩ zrw_s rfl
        · rw [zrw_r n2, zpm_r n4 n1, zup_r n1]
        · rw [zrw_r (by decide), zpm_87 (by decide) (by decide) (by decide), zup_k (by decide)]
      · intro k hk ih
        rw [eX11_week_71]
        rw [wrw_s] at ih
        simp (disch := omega) only [bX11_week, zZ, zrw_r, zpm_r, zup_r, h1, if_neg, zpm_94, zrw_u, zrw_s, pup_n, zpm_15, b_tst]
        exact ih
    simp only [zrw_s, zrw_2]
    exact h 0 (Nat.zero_le _)
/-- what was seen of a week is so, of the first i; of the first weeks all -/
def tk1 (S : zU) (fd w : Nat) : Nat → Bool
  | 0 => true
  | i + 1 => tk1 S fd w i && (!decide ((sse S i).val = w) || decide (fd / 2 ^ (sss S i).val % 2 = (ssf S i).val))
theorem tk1_s (S : zU) (fd w i : Nat) : tk1 S fd w (i + 1) = (tk1 S fd w i && (!decide ((sse S i).val = w) || decide (fd / 2 ^ (sss S i).val % 2 = (ssf S i).val))) := rfl
/-- nobody hides it by lot when it is only tried what could have been -/
def tlc (T : zT) : Nat := if (tlw T).val = 1 then 1 else 0
def tbg (T : zT) (S : zU) (p : Nat) : Nat → Bool
  | 0 => true
  | w + 1 => tbg T S p w && tk1 S (tit T (tlc T) (fun _ => 0) p 0 (w + 1)).2.2.2 w (ssn S)
theorem tbg_s (T : zT) (S : zU) (p w : Nat) : tbg T S p (w + 1) = (tbg T S p w && tk1 S (tit T (tlc T) (fun _ => 0) p 0 (w + 1)).2.2.2 w (ssn S)) := rfl
def bI (c : Bool) : Int32 := if c = true then nI 1 else nI 0
theorem bI_t : bI true = nI 1 := rfl
theorem bI_f : bI false = nI 0 := rfl
theorem tlc_2 {T : zT} : tlc T ≠ 2 := by unfold tlc; split <;> decide
theorem s_began {p : Nat} (hT : zTo T (I 89)) (hw : zTw T) (hS : zSo T S (I 91)) (hp : p < (tpn T).val)
    (hQ : ∀ I', kq I I' → I' 87 13 = nI (tit T (tlc T) (fun _ => 0) p 0 (swk S)).2.1 → Q (some (.int (bI (tbg T S p (swk S))))) sg (rg b) I' L) : zW (d + 4) mX11_began [.ref 87, .int (nI p)] sg (rg b) I L Q := by
  have hT0 := hT
  obtain ⟨h0, h1, h2, h3, h4, h5, h6⟩ := hT
  obtain ⟨g0, g1, g2, g3, g4, g5, g6, g7⟩ := hS
  have hn : tnk T (fun _ => 0) := fun k hk => (hw.2 k hk).1
  have hT' : zTo T (zup I 87 16 (nI (tlc T)) 89) := by rw [zup_r (by decide)]; exact hT0
  have h : ∀ w, w ≤ (swk S).val → ∀ fd l4, zq (d + 3) mX11_began Q 29 [some (.ref 87), some (.int (nI p)), some (.int (bI (tbg T S p w))), some (.int (nI w)), l4] [] sg (rg b) (zpm (zup I 87 16 (nI (tlc T))) (tit T (tlc T) (fun _ => 0) p (I 87 1) w).1 (tit T (tlc T) (fun _ => 0) p (I 87 1) w).2.1 (I 87 1) fd) L := by
    refine z_down _ ?_ ?_
    · intro fd l4
      rw [eX11_began_29]
      simp (disch := omega) only [bX11_began, zZ, zpm_r, zup_r, g1, if_pos]
      have hz : znw (bI (tbg T S p (swk S))) .boolean = True := by cases tbg T S p (swk S) <;> exact eq_true rfl
      simp only [hz, zZ]
      exact hQ _ (kq_t (kq_u (j := 16) (v := nI (tlc T)) (by decide) (by decide)) (kq_m (I := zup I 87 16 (nI (tlc T))))) (by rw [zpm_13, (tit_li (I 87 1) 0 tlc_2 _).2.1])
    · intro w hww ih fd l4
      obtain ⟨k1, k2, k3⟩ := tit_ok (T := T) (law := tlc T) (lot := I 87 1) hp hn w
      obtain ⟨j1, j2, j3⟩ := tit_ok (T := T) (law := tlc T) (lot := I 87 1) hp hn (w + 1)
      have hl := tit_lot (T := T) (law := tlc T) (nx := fun _ => 0) (r := p) (l := I 87 1) tlc_2 w
      have hf := (tit_li (T := T) (law := tlc T) (nx := fun _ => 0) (r := p) (I 87 1) 0 tlc_2 (w + 1)).2.2
      rw [eX11_began_29]
      simp (disch := omega) only [bX11_began, zZ, zpm_r, zup_r, g1, if_neg, s_plays hT' hw k1 k2 (show zup I 87 16 (nI (tlc T)) 87 16 = nI (tlc T) from zup_s) (show tlc T < 3 by unfold tlc; split <;> decide)]
      have e1 := tit_s T (tlc T) (fun _ => 0) p (I 87 1) w
      rw [hl] at e1
      rw [← e1]
      have hl' := tit_lot (T := T) (law := tlc T) (nx := fun _ => 0) (r := p) (l := I 87 1) tlc_2 (w + 1)
      rw [hl']
      have h47 : ∀ i, i ≤ (ssn S).val → zq (d + 3) mX11_began Q 47 [some (.ref 87), some (.int (nI p)), some (.int (bI (tbg T S p w && tk1 S (tit T (tlc T) (fun _ => 0) p (I 87 1) (w + 1)).2.2.2 w i))), some (.int (nI w)), some (.int (nI i))] [] sg (rg b) (zpm (zup I 87 16 (nI (tlc T))) (tit T (tlc T) (fun _ => 0) p (I 87 1) (w + 1)).1 (tit T (tlc T) (fun _ => 0) p (I 87 1) (w + 1)).2.1 (I 87 1) (nI (tit T (tlc T) (fun _ => 0) p (I 87 1) (w + 1)).2.2.2)) L := by
        refine z_down _ ?_ ?_
        · rw [eX11_began_47]
          simp (disch := omega) only [bX11_began, zZ, zpm_r, zup_r, g4, if_pos]
          rw [hf]
          rw [tbg_s] at ih
          exact ih _ _
        · intro i hi ih2
          rw [eX11_began_47]
          rw [tk1_s] at ih2
          cases c : tbg T S p w && tk1 S (tit T (tlc T) (fun _ => 0) p (I 87 1) (w + 1)).2.2.2 w i with
          | false =>
            rw [← Bool.and_assoc, c] at ih2
            simp only [Bool.false_and] at ih2
            simp (disch := omega) only [bX11_began, zZ, zpm_r, zup_r, g4, if_neg, bI_f]
            exact ih2
          | true =>
            rw [← Bool.and_assoc, c] at ih2
            simp (disch := omega) only [bX11_began, zZ, zpm_r, zup_r, g4, if_neg, bI_t, g5, g6, g7, zpm_15, b_tst]
            by_cases e1 : (sse S i).val = w
            · rw [if_pos e1]
              by_cases e2 : (tit T (tlc T) (fun _ => 0) p (I 87 1) (w + 1)).2.2.2 / 2 ^ (sss S i).val % 2 = (ssf S i).val
              · rw [if_pos e2]
                simpa only [e1, e2, decide_true, Bool.or_true, Bool.and_true, bI_t] using ih2
              · rw [if_neg e2]
                simpa only [e1, e2, decide_true, decide_false, Bool.not_true, Bool.or_false, Bool.and_false, bI_f] using ih2
            · rw [if_neg e1]
              simpa only [e1, decide_false, Bool.not_false, Bool.true_or, Bool.and_true, bI_t] using ih2
      have h470 := h47 0 (Nat.zero_le _)
      rw [show ∀ x, tk1 S x w 0 = true from fun _ => rfl, Bool.and_true] at h470
      exact h470
  simp (disch := omega) only [nX11_began, bX11_began, zZ, s_starts0, zpm_r, h2, zpm_u16]
  have hh := h 0 (Nat.zero_le _) (I 87 15) none
  by_cases e : (tlw T).val = 1
  · rw [if_pos e]
    rw [show tlc T = 1 from if_pos e] at hh
    exact hh
  · rw [if_neg e]
    rw [show tlc T = 0 from if_neg e] at hh
    exact hh
/-- COULD -/
def r_cou (T : zT) (S : zU) (what : Int32) : Nat → Int32
  | 0 => nI 0
  | p + 1 => r_cou T S what p ||| (if tbg T S p (swk S) = true then nI 1 <<< ((if what = nI 0 then nI p else nI (tit T (tlc T) (fun _ => 0) p 0 (swk S)).2.1) &&& 31) else nI 0)
theorem r_cou_s (T : zT) (S : zU) (what : Int32) (p : Nat) : r_cou T S what (p + 1) = r_cou T S what p ||| (if tbg T S p (swk S) = true then nI 1 <<< ((if what = nI 0 then nI p else nI (tit T (tlc T) (fun _ => 0) p 0 (swk S)).2.1) &&& 31) else nI 0) := rfl
theorem m_could {what : Int32} (hT : zTo T (I 89)) (hw : zTw T) (hS : zSo T S (I 91)) (hQ : if 0 ≤ what.toInt ∧ what.toInt < 2 then (∀ I', kq I I' → Q (some (.int (r_cou T S what (tpn T)))) sg (rg b) I' L) else Q (some (.int (-1))) sg (rg b) I L) : zW (d + 5) mX11_could [.ref 87, .int what] sg (rg b) I L Q := by
  by_cases c : 0 ≤ what.toInt ∧ what.toInt < 2
  · rw [if_pos c] at hQ
    obtain ⟨m, hm, rfl⟩ := v_of (n := 2) (v := what) (by omega) (by omega)
    have h : ∀ p, p ≤ (tpn T).val → ∀ I', kq I I' → zq (d + 4) mX11_could Q 15 [some (.ref 87), some (.int (nI m)), some (.int (r_cou T S (nI m) p)), some (.int (nI p))] [] sg (rg b) I' L := by
      refine z_down _ ?_ ?_
      · intro I' hI'
        have h0 : I' 89 0 = nI (tpn T) := by rw [hI'.1.1 89 (by decide) (by decide) (by decide) (by decide) (by decide) (by decide)]; exact hT.1
        rw [eX11_could_15]
        simp (disch := omega) only [bX11_could, zZ, h0, if_pos]
        exact hQ I' hI'
      · intro p hp ih I' hI'
        have e89 : I' 89 = I 89 := hI'.1.1 89 (by decide) (by decide) (by decide) (by decide) (by decide) (by decide)
        have h0 : I' 89 0 = nI (tpn T) := by rw [e89]; exact hT.1
        rw [eX11_could_15]
        simp (disch := omega) only [bX11_could, zZ, h0, if_neg]
        refine s_began (T := T) (S := S) (by rw [e89]; exact hT) hw (by rw [hI'.2.1]; exact hS) hp (fun I'' hI'' h13 => ?_)
        rw [r_cou_s] at ih
        have hk := kq_t hI' hI''
        cases e : tbg T S p (swk S) with
        | false =>
          rw [e] at ih
          simp only [Bool.false_eq_true, if_false] at ih
          simp (disch := omega) only [zZ, bX11_could, bI_f]
          exact ih _ hk
        | true =>
          rw [e] at ih
          simp only [if_true] at ih
          simp (disch := omega) only [zZ, bX11_could, bI_t, h13]
          by_cases hm0 : m = 0
          · rw [if_pos hm0]
            simp only [hm0, if_true] at ih ⊢
            exact ih _ hk
          · rw [if_neg hm0]
            simp (disch := omega) only [nI_eq, hm0, if_false] at ih
            exact ih _ hk
    simp (disch := omega) only [nX11_could, bX11_could, zZ, s_in, if_pos, if_neg]
    exact h 0 (Nat.zero_le _) I kq_i
  · rw [if_neg c] at hQ
    simp (disch := omega) only [nX11_could, bX11_could, zZ, s_in, zV3, if_pos, if_neg]
    exact hQ
end S2
