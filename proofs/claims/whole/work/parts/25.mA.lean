/-! THE MODEL'S SMALL METHODS -/
section S
variable {d : Nat} {Q : zPo} {σ : zSh} {ρ : zRf} {I : zIm} {L : zLm} {b : Bool} {T : zT}
theorem s_in {v a b : Int32} : zW (d + 1) mX11_in [.int v, .int a, .int b] σ ρ I L Q = Q (some (.int (if a ≤ v ∧ v ≤ b then nI 1 else nI 0))) σ ρ I L := by
  simp only [nX11_in, bX11_in, znw_0, znw_1, true_and]
  by_cases h : v < a
  · rw [if_pos h, if_neg (fun q => absurd q.1 (Int32.not_le.2 h))]
  · rw [if_neg h]
    by_cases h2 : b < v
    · rw [if_pos h2, if_neg (fun q => absurd q.2 (Int32.not_le.2 h2))]
    · rw [if_neg h2, if_pos ⟨Int32.not_lt.1 h, Int32.not_lt.1 h2⟩]
theorem s_isPlace {p : Int32} (h0 : I 89 0 = nI (tpn T)) : zW (d + 2) mX11_isPlace [.ref 87, .int p] sg (rg b) I L Q = Q (some (.int (if nI 0 ≤ p ∧ p ≤ nI (tpn T) - nI 1 then nI 1 else nI 0))) sg (rg b) I L := by
  simp (disch := omega) only [nX11_isPlace, bX11_isPlace, s_in, tL_some, znw_z, true_and, vp_in_nI, nI_clamp, h0]
theorem s_isSeeker {p : Int32} (h0 : I 89 1 = nI (tsn T)) : zW (d + 2) mX11_isSeeker [.ref 87, .int p] sg (rg b) I L Q = Q (some (.int (if nI 0 ≤ p ∧ p ≤ nI (tsn T) - nI 1 then nI 1 else nI 0))) sg (rg b) I L := by
  simp (disch := omega) only [nX11_isSeeker, bX11_isSeeker, s_in, tL_some, znw_z, true_and, vp_in_nI, nI_clamp, h0]
theorem s_ones {m : Nat} (hm : m < 64) : zW (d + 1) mX11_ones [.int (nI m)] σ ρ I L Q = Q (some (.int (nI (cnt m 8)))) σ ρ I L := by
  have h : ∀ k, k ≤ 8 → zq d mX11_ones Q 4 [some (.int (nI m)), some (.int (nI (cnt m k))), some (.int (nI k))] [] σ ρ I L = zq d mX11_ones Q 4 [some (.int (nI m)), some (.int (nI (cnt m 8))), some (.int (nI 8))] [] σ ρ I L := by
    refine z_iter 8 (fun k hk => ?_)
    rw [eX11_ones_4]
    have := cnt_le m k
    simp (disch := omega) only [bX11_ones, nI_leI, if_neg, b_tst, nI_add]
    rfl
  simp only [nX11_ones, bX11_ones]
  refine (h 0 (by decide)).trans ?_
  rw [eX11_ones_4]
  have := cnt_le m 8
  simp (disch := omega) only [bX11_ones, nI_leI, if_pos]
theorem s_member {m i : Nat} (hm : m < 64) (hi : i < 64) : zW (d + 1) mX11_member [.int (nI m), .int (nI i)] σ ρ I L Q = Q (some (.int (zfn (mbr m i 8)))) σ ρ I L := by
  have h : ∀ k, k ≤ 8 → ∀ l, zq d mX11_member Q 8 [some (.int (nI m)), some (.int (nI i)), some (.int (nI (cnt m k))), some (.int (zfn (mbr m i k))), some (.int (nI k)), l] [] σ ρ I L = Q (some (.int (zfn (mbr m i 8)))) σ ρ I L := by
    refine z_down 8 ?_ ?_
    · intro l
      rw [eX11_member_8]
      have := cnt_le m 8
      simp (disch := omega) only [bX11_member, zZ, if_pos]
    · intro k hk ih l
      rw [eX11_member_8]
      have := cnt_le m k
      simp only [cnt_s m k, mbr_s m i k] at ih
      rcases Nat.mod_two_eq_zero_or_one (m / 2 ^ k) with h | h <;> rw [h] at ih
      · simp (disch := omega) only [bX11_member, zZ, if_neg, if_pos, b_tst, h]
        simpa only [zZ, Nat.zero_ne_one, if_false] using ih _
      · by_cases h2 : cnt m k = i
        · simp (disch := omega) only [bX11_member, zZ, if_neg, if_pos, b_tst, h, h2]
          simpa only [h2, and_self, zZ, if_true, show zfn (some k) = nI k from rfl] using ih _
        · simp (disch := omega) only [bX11_member, zZ, if_neg, if_pos, b_tst, h, h2]
          simpa only [h2, zZ, if_false] using ih _
  simp only [nX11_member, bX11_member]
  exact h 0 (by decide) _
theorem s_drawn {n : Nat} (h0 : 0 < n) (hn : n < 64) : zW (d + 1) mX11_drawn [.ref 87, .int (nI n)] sg ρ I L Q = Q (some (.int (nI (ldr (lnx (I 87 1)) % n)))) sg ρ (zup I 87 1 (lnx (I 87 1))) L := by
  have hl := ldr_lt (lnx (I 87 1))
  have hne : ¬ nI n = 0 := nI_ne0 h0 (by omega)
  have e := @ldr_eq (lnx (I 87 1))
  unfold lnx at e hl
  simp (disch := omega) only [nX11_drawn, bX11_drawn, zZ, hne, not_false_eq_true, e, pk_rem]
  rfl
theorem s_noWorse {p : Nat} (hT : zTo T (I 89)) (hp : p < (tpn T).val) : zW (d + 1) mX11_noWorse [.ref 87, .int (nI p)] sg (rg b) I L Q = Q (some (.int (nI (tnw T p)))) sg (rg b) I L := by
  obtain ⟨h0, h1, h2, h3, h4, h5, h6⟩ := hT
  have h : ∀ k, k ≤ (tpn T).val → zq d mX11_noWorse Q 4 [some (.ref 87), some (.int (nI p)), some (.int (nI (tnu T p k))), some (.int (nI k))] [] sg (rg b) I L = Q (some (.int (nI (tnw T p)))) sg (rg b) I L := by
    refine z_down _ ?_ ?_
    · rw [eX11_noWorse_4]
      simp (disch := omega) only [bX11_noWorse, zZ, h0, if_pos]
      rfl
    · intro k hk ih
      rw [eX11_noWorse_4]
      have := tnu_lt T p k
      have := tnu_64 T p (q := k) (by omega)
      simp (disch := omega) only [bX11_noWorse, zZ, h0, h3, if_neg, b_or0, b_or]
      rw [← ih]
      rw [tnu_s]
      by_cases e1 : k = p
      · simp only [e1, if_true]
      · by_cases e2 : (thd T k).val < (thd T p).val
        · simp only [e1, if_false, e2, if_true]
        · simp only [e1, if_false, e2]
  simp only [nX11_noWorse, bX11_noWorse]
  exact h 0 (Nat.zero_le _)
end S
