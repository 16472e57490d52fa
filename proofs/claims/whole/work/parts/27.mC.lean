/-! THE MODEL: type, weeks played -/
/-- the k-th byte of a long -/
def lby (v : Int64) (k : Nat) : Nat := v.toBitVec.toNat / 2 ^ (8 * k) % 256
theorem lby_lt (v : Int64) (k : Nat) : lby v k < 256 := Nat.mod_lt _ (by decide)
theorem lby_sh : ∀ k, k < 8 → (((nI (8 * k)).toInt64 &&& 63).toBitVec.smod 64) = BitVec.ofNat 64 (8 * k) := by decide +kernel
theorem lby_us : ∀ k, k < 8 → (((nI (8 * k)).toInt64.toUInt64 &&& Int64.toUInt64 63).toBitVec % 64) = BitVec.ofNat 64 (8 * k) := by decide +kernel
theorem lby_b (v : Int64) {k i : Nat} : (lby v k).testBit i = (decide (i < 8) && v.toBitVec.getLsbD (8 * k + i)) := by
  unfold lby
  rw [show (256 : Nat) = 2 ^ 8 from rfl, Nat.testBit_mod_two_pow, Nat.testBit_div_two_pow, Nat.add_comm i]; rfl
theorem lby_255 : ∀ i, i < 32 → (Int64.toBitVec 255).getLsbD i = decide (i < 8) := by decide +kernel
theorem lby_255i : ∀ i, i < 32 → (nI 255).toBitVec.getLsbD i = decide (i < 8) := by decide +kernel
theorem lby_n (n : Nat) : (nI n).toBitVec = BitVec.ofNat 32 n := rfl
theorem lby_m (v : Int64) {k : Nat} (hk : k < 8) : ((v >>> ((nI (8 * k)).toInt64 &&& 63)) &&& 255).toInt32 = nI (lby v k) := by
  apply Int32.toBitVec_inj.1
  apply BitVec.eq_of_getLsbD_eq
  intro i hi
  have h1 : (v >>> ((nI (8 * k)).toInt64 &&& 63)).toBitVec = v.toBitVec.sshiftRight (8 * k) := by
    rw [Int64.toBitVec_shiftRight, lby_sh k hk, BitVec.sshiftRight_eq', BitVec.toNat_ofNat, Nat.mod_eq_of_lt (by omega)]
  rw [Int64.toBitVec_toInt32, BitVec.getLsbD_signExtend, Int64.toBitVec_and, BitVec.getLsbD_and, h1, BitVec.getLsbD_sshiftRight, lby_255 i hi, lby_n, BitVec.getLsbD_ofNat, lby_b]
  have e1 : decide (i < 32) = true := decide_eq_true hi
  have e2 : decide (64 ≤ i) = false := decide_eq_false (by omega)
  rw [e1, e2, if_pos (show i < 64 by omega)]
  by_cases h8 : i < 8
  · rw [if_pos (show 8 * k + i < 64 by omega)]
    simp [h8]
  · simp [h8]
theorem lby_c (v : Int64) {k : Nat} (hk : k < 8) : ((v.toUInt64 >>> ((nI (8 * k)).toInt64.toUInt64 &&& Int64.toUInt64 63)).toInt64.toInt32 &&& nI 255) = nI (lby v k) := by
  apply Int32.toBitVec_inj.1
  apply BitVec.eq_of_getLsbD_eq
  intro i hi
  have h1 : (v.toUInt64 >>> ((nI (8 * k)).toInt64.toUInt64 &&& Int64.toUInt64 63)).toBitVec = v.toBitVec >>> (8 * k) := by
    rw [UInt64.toBitVec_shiftRight, lby_us k hk, BitVec.ushiftRight_eq', BitVec.toNat_ofNat, Nat.mod_eq_of_lt (by omega)]; rfl
  have h2 : (v.toUInt64 >>> ((nI (8 * k)).toInt64.toUInt64 &&& Int64.toUInt64 63)).toInt64.toBitVec = v.toBitVec >>> (8 * k) := h1
  rw [Int32.toBitVec_and, BitVec.getLsbD_and, Int64.toBitVec_toInt32, h2, BitVec.getLsbD_signExtend, BitVec.getLsbD_ushiftRight, lby_255i i hi, lby_n, BitVec.getLsbD_ofNat, lby_b]
  have e1 : decide (i < 32) = true := decide_eq_true hi
  rw [e1, if_pos (show i < 64 by omega)]
  by_cases h8 : i < 8 <;> simp [h8]
section S
variable {d : Nat} {Q : zPo} {I : zIm} {L : zLm} {b : Bool}
theorem m_type {v : Int64} {n : Int32} {t : Nat} (ht : I 87 3 = nI t) (ht2 : t ≤ 200) : zW (d + 2) mX11_type [.ref 87, .long v, .int n] sg (rg b) I L Q =
    if 1 ≤ n.toInt ∧ n.toInt ≤ 8 then (if 200 < t + n.toInt.toNat then Q (some (.int (-3))) sg (rg b) I L else Q (some (.int (nI (t + n.toInt.toNat)))) sg (rg b) (zup (fil I 88 t (fun i => nI (lby v (n.toInt.toNat - (i + 1)))) n.toInt.toNat) 87 3 (nI (t + n.toInt.toNat))) L)
    else Q (some (.int (-1))) sg (rg b) I L := by
  by_cases hp : 1 ≤ n.toInt ∧ n.toInt ≤ 8
  · rw [if_pos hp]
    obtain ⟨m, hm, rfl⟩ := v_of (n := 9) (v := n) (by omega) (by omega)
    have hm1 : 1 ≤ m := by have := hp.1; rw [nI_toInt (by omega)] at this; omega
    simp (disch := omega) only [Int.toNat_natCast, nI_toInt]
    by_cases hf : 200 < t + m
    · rw [if_pos hf]
      simp (disch := omega) only [nX11_type, bX11_type, zZ, s_in, if_pos, if_neg, ht]
    · rw [if_neg hf]
      have h : ∀ j, j ≤ m → zq (d + 1) mX11_type Q 32 [some (.ref 87), some (.long v), none, some (.int (nI m)), some (.int (nI m - nI (j + 1)))] [] sg (rg b) (zup (fil I 88 t (fun i => nI (lby v (m - (i + 1)))) j) 87 3 (nI (t + j))) L = Q (some (.int (nI (t + m)))) sg (rg b) (zup (fil I 88 t (fun i => nI (lby v (m - (i + 1)))) m) 87 3 (nI (t + m))) L := by
        refine z_down m ?_ ?_
        · rw [eX11_type_32]
          have := pk_sneg (a := m) (b := m + 1) (by omega) (by omega)
          rw [← nI_0] at this
          simp (disch := omega) only [bX11_type, zZ, this, if_pos]
        · intro j hj ih
          rw [eX11_type_32]
          have e : nI m - nI (j + 1 + 1) = nI m - nI (j + 1) + -1 := by
            rw [nI_succ (j + 1), Int32.sub_eq_add_neg, Int32.sub_eq_add_neg, Int32.neg_add, Int32.sub_eq_add_neg (-nI (j + 1)), Int32.add_assoc]
          rw [e] at ih
          simp (disch := omega) only [pk_sub] at ih ⊢
          have e2 := @fil_s Int32 I 88 t j (fun i => nI (lby v (m - (i + 1))))
          simp (disch := omega) only [bX11_type, zZ, if_pos, if_neg, zup_sw, lby_m, zup_c, zup_k, fil_r, e2, Nat.add_assoc, ih]
      simp (disch := omega) only [nX11_type, bX11_type, zZ, s_in, if_pos, if_neg, ht]
      have h0 := h 0 (Nat.zero_le _)
      simp only [fil_0, Nat.add_zero, Nat.zero_add, zup_id ht] at h0
      exact h0
  · rw [if_neg hp]
    simp (disch := omega) only [nX11_type, bX11_type, zZ, s_in, zV3, if_pos, if_neg]
end S
