/-! THE MODEL: type, weeks played -/
/-- the k-th byte of a long -/
def lby (v : Int64) (k : Nat) : Nat := v.toBitVec.toNat / 2 ^ (8 * k) % 256
theorem lby_lt (v : Int64) (k : Nat) : lby v k < 256 := Nat.mod_lt _ (by decide)
theorem lby_sh : ∀ k, k < 8 → (((nI (8 * k)).toInt64 &&& 63).toBitVec.smod 64) = BitVec.ofNat 64 (8 * k) := by decide +kernel
theorem lby_us : ∀ k, k < 8 → (((nI (8 * k)).toInt64.toUInt64 &&& Int64.toUInt64 63).toBitVec % 64) = BitVec.ofNat 64 (8 * k) := by decide +kernel
theorem lby_b (v : Int64) {k i : Nat} : (lby v k).testBit i = (decide (i < 8) && v.toBitVec.getLsbD (8 * k + i)) := by
  unfold lby
  rw [show (256 : Nat) = 2 ^ 8 from rfl, Nat.testBit_mod_two_pow, Nat.testBit_div_two_pow, Nat.add_comm i]; rfl
theorem lby_255 : ∀ i, i < 32 → (Int64.toBitVec 255).getLsbD i = decide (i < 8) := by decide +kernel
theorem lby_255i : ∀ i, i < 32 → (nI 255).toBitVec.getLsbD i = decide (i < 8) := by decide +kernel
theorem lby_n (n : Nat) : (nI n).toBitVec = BitVec.ofNat 32 n := rfl
theorem lby_m (v : Int64) {k : Nat} (hk : k < 8) : ((v >>> ((nI (8 * k)).toInt64 &&& 63)) &&& 255).toInt32 = nI (lby v k) := by
  apply Int32.toBitVec_inj.1
  apply BitVec.eq_of_getLsbD_eq
  intro i hi
  have h1 : (v >>> ((nI (8 * k)).toInt64 &&& 63)).toBitVec = v.toBitVec.sshiftRight (8 * k) := by
    rw [Int64.toBitVec_shiftRight, lby_sh k hk, BitVec.sshiftRight_eq', BitVec.toNat_ofNat, Nat.mod_eq_of_lt (by omega)]
  rw [Int64.toBitVec_toInt32, BitVec.getLsbD_signExtend, Int64.toBitVec_and, BitVec.getLsbD_and, h1, BitVec.getLsbD_sshiftRight, lby_255 i hi, lby_n, BitVec.getLsbD_ofNat, lby_b]
  have e1 : decide (i < 32) = true := decide_eq_true hi
  have e2 : decide (64 ≤ i) = false := decide_eq_false (by omega)
  rw [e1, e2, if_pos (show i < 64 by omega)]
  by_cases h8 : i < 8
  · rw [if_pos (show 8 * k + i < 64 by omega)]
    simp [h8]
  · simp [h8]
theorem lby_c (v : Int64) {k : Nat} (hk : k < 8) : ((v.toUInt64 >>> ((nI (8 * k)).toInt64.toUInt64 &&& Int64.toUInt64 63)).toInt64.toInt32 &&& nI 255) = nI (lby v k) := by
  apply Int32.toBitVec_inj.1
  apply BitVec.eq_of_getLsbD_eq
  intro i hi
  have h1 : (v.toUInt64 >>> ((nI (8 * k)).toInt64.toUInt64 &&& Int64.toUInt64 63)).toBitVec = v.toBitVec >>> (8 * k) := by
    rw [UInt64.toBitVec_shiftRight, lby_us k hk, BitVec.ushiftRight_eq', BitVec.toNat_ofNat, Nat.mod_eq_of_lt (by omega)]; rfl
  have h2 : (v.toUInt64 >>> ((nI (8 * k)).toInt64.toUInt64 &&& Int64.toUInt64 63)).toInt64.toBitVec = v.toBitVec >>> (8 * k) := h1
  rw [Int32.toBitVec_and, BitVec.getLsbD_and, Int64.toBitVec_toInt32, h2, BitVec.getLsbD_signExtend, BitVec.getLsbD_ushiftRight, lby_255i i hi, lby_n, BitVec.getLsbD_ofNat, lby_b]
  have e1 : decide (i < 32) = true := decide_eq_true hi
  rw [e1, if_pos (show i < 64 by omega)]
  by_cases h8 : i < 8 <;> simp [h8]
section S
variable {d : Nat} {Q : zPo} {I : zIm} {L : zLm} {b : Bool}
theorem m_type {v : Int64} {n : Int32} {t : Nat} (ht : I 87 3 = nI t) (ht2 : t ≤ 200) : zW (d + 2) mX11_type [.ref 87, .long v, .int n] sg (rg b) I L Q =
    if 1 ≤ n.toInt ∧ n.toInt ≤ 8 then (if 200 < t + n.toInt.toNat then Q (some (.int (-3))) sg (rg b) I L else Q (some (.int (nI (t + n.toInt.toNat)))) sg (rg b) (zup (fil I 88 t (fun i => nI (lby v (n.toInt.toNat - (i + 1)))) n.toInt.toNat) 87 3 (nI (t + n.toInt.toNat))) L)
    else Q (some (.int (-1))) sg (rg b) I L := by
  by_cases hp : 1 ≤ n.toInt ∧ n.toInt ≤ 8
  · rw [if_pos hp]
    obtain ⟨m, hm, rfl⟩ := v_of (n := 9) (v := n) (by omega) (by omega)
    have hm1 : 1 ≤ m := by have := hp.1; rw [nI_toInt (by omega)] at this; omega
    simp (disch := omega) only [Int.toNat_natCast, nI_toInt]
    by_cases hf : 200 < t + m
    · rw [if_pos hf]
      simp (disch := omega) only [nX11_type, bX11_type, zZ, s_in, if_pos, if_neg, ht]
    · rw [if_neg hf]
      have h : ∀ j, j ≤ m → zq (d + 1) mX11_type Q 32 [some (.ref 87), some (.long v), none, some (.int (nI m)), some (.int (nI m - nI (j + 1)))] [] sg (rg b) (zup (fil I 88 t (fun i => nI (lby v (m - (i + 1)))) j) 87 3 (nI (t + j))) L = Q (some (.int (nI (t + m)))) sg (rg b) (zup (fil I 88 t (fun i => nI (lby v (m - (i + 1)))) m) 87 3 (nI (t + m))) L := by
        refine z_down m ?_ ?_
        · rw [eX11_type_32]
          have := pk_sneg (a := m) (b := m + 1) (by omega) (by omega)
          rw [← nI_0] at this
          simp (disch := omega) only [bX11_type, zZ, this, if_pos]
        · intro j hj ih
          rw [eX11_type_32]
          have e : nI m - nI (j + 1 + 1) = nI m - nI (j + 1) + -1 := by
            rw [nI_succ (j + 1), Int32.sub_eq_add_neg, Int32.sub_eq_add_neg, Int32.neg_add, Int32.sub_eq_add_neg (-nI (j + 1)), Int32.add_assoc]
          rw [e] at ih
          simp (disch := omega) only [pk_sub] at ih ⊢
          have e2 := @fil_s Int32 I 88 t j (fun i => nI (lby v (m - (i + 1))))
          simp (disch := omega) only [bX11_type, zZ, if_pos, if_neg, zup_sw, lby_m, zup_c, zup_k, fil_r, e2, Nat.add_assoc, ih]
      simp (disch := omega) only [nX11_type, bX11_type, zZ, s_in, if_pos, if_neg, ht]
      have h0 := h 0 (Nat.zero_le _)
      simp only [fil_0, Nat.add_zero, Nat.zero_add, zup_id ht] at h0
      exact h0
  · rw [if_neg hp]
    simp (disch := omega) only [nX11_type, bX11_type, zZ, s_in, zV3, if_pos, if_neg]
end S
section S2
variable {d : Nat} {Q : zPo} {I : zIm} {L : zLm} {b : Bool} {T : zT} {S : zU} {nx : Nat → Nat} {r : Nat}
theorem s_starts1 (hS : ∀ k, k < 4 → I 91 (2 + k) = nI (nx k)) : zW (d + 1) mX11_starts [.ref 87, .int (nI r), .int (nI 1)] sg (rg b) I L Q = Q none sg (rg b) (zpm I nx r (I 87 1) (I 87 15)) L := by
  have h : ∀ k, k ≤ 4 → zq d mX11_starts Q 7 [some (.ref 87), some (.int (nI r)), some (.int (nI 1)), some (.int (nI k))] [] sg (rg b) (fil (zup I 87 13 (nI r)) 94 0 (fun k => nI (nx k)) k) L = Q none sg (rg b) (zpm I nx r (I 87 1) (I 87 15)) L := by
    refine z_down 4 ?_ ?_
    · rw [eX11_starts_7, zpm_fil]
      simp (disch := omega) only [bX11_starts, zZ, if_pos]
    · intro k hk ih
      rw [eX11_starts_7]
      rw [← fil_s0] at ih
      simp (disch := omega) only [bX11_starts, zZ, if_neg, fil_r, zup_r, hS]
      exact ih
  simp only [nX11_starts, bX11_starts]
  have h0 := h 0 (by decide)
  rw [fil_0] at h0
  exact h0
theorem s_starts0 : zW (d + 1) mX11_starts [.ref 87, .int (nI r), .int (nI 0)] sg (rg b) I L Q = Q none sg (rg b) (zpm I (fun _ => 0) r (I 87 1) (I 87 15)) L := by
  have h : ∀ k, k ≤ 4 → zq d mX11_starts Q 7 [some (.ref 87), some (.int (nI r)), some (.int (nI 0)), some (.int (nI k))] [] sg (rg b) (fil (zup I 87 13 (nI r)) 94 0 (fun _ => nI 0) k) L = Q none sg (rg b) (zpm I (fun _ => 0) r (I 87 1) (I 87 15)) L := by
    refine z_down 4 ?_ ?_
    · rw [eX11_starts_7, zpm_fil (nx := fun _ => 0)]
      simp (disch := omega) only [bX11_starts, zZ, if_pos]
    · intro k hk ih
      rw [eX11_starts_7]
      rw [← fil_s0] at ih
      simp (disch := omega) only [bX11_starts, zZ, if_neg, if_pos, fil_r, zup_r]
      exact ih
  simp only [nX11_starts, bX11_starts]
  have h0 := h 0 (by decide)
  rw [fil_0] at h0
  exact h0
theorem s_firstWeek (hT : zTo T (I 89)) (hw : zTw T) (hS : ∀ k, k < 4 → I 91 (2 + k) = nI (nx k)) (hr : r < (tpn T).val) (hn : tnk T nx) (hQ : ∀ I', kq I I' → Q (some (.int (zfn (tli T 0 50 1 nx r (I 87 1))))) sg (rg b) I' L) : zW (d + 4) mX11_firstWeek [.ref 87, .int (nI r)] sg (rg b) I L Q := by
  have h : ∀ f w nx' r' fd, f + w = 51 → r' < (tpn T).val → tnk T nx' → tli T 0 50 1 nx r (I 87 1) = tli T 0 f w nx' r' (I 87 1) → zq (d + 3) mX11_firstWeek Q 13 [some (.ref 87), some (.int (nI r)), some (.int (nI w))] [] sg (rg b) (zpm (zup I 87 16 (nI 0)) nx' r' (I 87 1) fd) L := by
    intro f
    induction f with
    | zero =>
      intro w nx' r' fd hf hr' hn' e
      rw [eX11_firstWeek_13]
      simp (disch := omega) only [bX11_firstWeek, zZ, if_pos]
      rw [e] at hQ
      exact hQ _ (kq_t (kq_u (j := 16) (v := nI 0) (by decide) (by decide)) (kq_m (I := zup I 87 16 (nI 0))))
    | succ f ih =>
      intro w nx' r' fd hf hr' hn' e
      have hT' : zTo T (zup I 87 16 (nI 0) 89) := by rw [zup_r (by decide)]; exact hT
      rw [eX11_firstWeek_13]
      have h16 := tpw_16 (law := 0) (lot := I 87 1) hr' hn'
      have hok := tpw_ok (law := 0) (lot := I 87 1) hr' hn'
      have hlot := tpw_lot (T := T) (law := 0) (nx := nx') (r := r') (lot := I 87 1) (by decide)
      have h4 := cnt_le (tpw T 0 nx' r' (I 87 1)).2.2.2 4
      have hc := cnt4_0 _ h16
      simp (disch := omega) only [bX11_firstWeek, zZ, if_neg, s_plays hT' hw hr' hn' (show zup I 87 16 (nI 0) 87 16 = nI 0 from zup_s) (by decide)]
      rw [tli_s T 0 f] at e
      simp only [hlot] at e ⊢
      by_cases c : (tpw T 0 nx' r' (I 87 1)).2.2.2 = 0
      · rw [if_pos c] at e
        simp (disch := omega) only [if_pos]
        exact ih _ _ _ _ (by omega) hok.1 hok.2.1 e
      · rw [if_neg c] at e
        simp (disch := omega) only [if_neg]
        rw [e] at hQ
        exact hQ _ (kq_t (kq_u (j := 16) (v := nI 0) (by decide) (by decide)) (kq_m (I := zup I 87 16 (nI 0))))
  simp (disch := omega) only [nX11_firstWeek, bX11_firstWeek, zZ, s_starts1 hS, zpm_u16]
  exact h 50 1 nx r _ rfl hr hn rfl
end S2
