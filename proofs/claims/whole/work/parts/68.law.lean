/-! THE LAW: every call answers alike; its loop -/
section S
variable {N : Nat} {xs : Nat → Int32} {d : Nat} {Q : zPo} {I : zIm} {L : zLm} {b : Bool} {i : Nat}
theorem eq_s {α : Type} {a : α} : (a = a) = True := eq_true rfl
theorem lc_type (hN : N ≤ 2048) (hR : zRl b I L) (hi : i + 4 ≤ N) (ih : ∀ b' I' L', zRl b' I' L' → zlw N xs (d + 20) Q 805 [some (.ref 7000), some (.ref 0), some (.ref 87), some (.int (nI i))] [] sg (rg b') I' L') : zlw N xs (d + 20) Q 148 [some (.ref 7000), some (.ref 0), some (.ref 87), some (.int (nI i))] [] sg (rg b) I L := by
  simp (disch := omega) only [bL, zZ]
  refine p_type hR (fun y b' I' L' hm => ?_)
  simp (disch := omega) only [bL, zZ]
  refine hm _ (fun I2 L2 hR2 => ?_)
  have h := ih b' I2 L2 hR2
  simp (disch := omega) only [bL, zZ, eq_s, lg_0]
  exact h
theorem lc_clear (hN : N ≤ 2048) (hR : zRl b I L) (hi : i + 4 ≤ N) (ih : ∀ b' I' L', zRl b' I' L' → zlw N xs (d + 20) Q 805 [some (.ref 7000), some (.ref 0), some (.ref 87), some (.int (nI i))] [] sg (rg b') I' L') : zlw N xs (d + 20) Q 211 [some (.ref 7000), some (.ref 0), some (.ref 87), some (.int (nI i))] [] sg (rg b) I L := by
  simp (disch := omega) only [bL, zZ]
  refine p_clear hR (fun y b' I' L' hm => ?_)
  simp (disch := omega) only [bL, zZ]
  refine hm _ (fun I2 L2 hR2 => ?_)
  have h := ih b' I2 L2 hR2
  simp (disch := omega) only [bL, zZ, eq_s, lg_0]
  exact h
theorem lc_town (hN : N ≤ 2048) (hR : zRl b I L) (hi : i + 4 ≤ N) (ih : ∀ b' I' L', zRl b' I' L' → zlw N xs (d + 20) Q 805 [some (.ref 7000), some (.ref 0), some (.ref 87), some (.int (nI i))] [] sg (rg b') I' L') : zlw N xs (d + 20) Q 224 [some (.ref 7000), some (.ref 0), some (.ref 87), some (.int (nI i))] [] sg (rg b) I L := by
  simp (disch := omega) only [bL, zZ]
  refine p_town hR (fun y b' I' L' hm => ?_)
  simp (disch := omega) only [bL, zZ]
  refine hm _ (fun I2 L2 hR2 => ?_)
  have h := ih b' I2 L2 hR2
  simp (disch := omega) only [bL, zZ, eq_s, lg_0]
  exact h
theorem lc_place (hN : N ≤ 2048) (hR : zRl b I L) (hi : i + 4 ≤ N) (ih : ∀ b' I' L', zRl b' I' L' → zlw N xs (d + 20) Q 805 [some (.ref 7000), some (.ref 0), some (.ref 87), some (.int (nI i))] [] sg (rg b') I' L') : zlw N xs (d + 20) Q 237 [some (.ref 7000), some (.ref 0), some (.ref 87), some (.int (nI i))] [] sg (rg b) I L := by
  simp (disch := omega) only [bL, zZ]
  refine p_place hR (fun y b' I' L' hm => ?_)
  simp (disch := omega) only [bL, zZ]
  refine hm _ (fun I2 L2 hR2 => ?_)
  have h := ih b' I2 L2 hR2
  simp (disch := omega) only [bL, zZ, eq_s, lg_0]
  exact h
theorem lc_seeker (hN : N ≤ 2048) (hR : zRl b I L) (hi : i + 4 ≤ N) (ih : ∀ b' I' L', zRl b' I' L' → zlw N xs (d + 20) Q 805 [some (.ref 7000), some (.ref 0), some (.ref 87), some (.int (nI i))] [] sg (rg b') I' L') : zlw N xs (d + 20) Q 270 [some (.ref 7000), some (.ref 0), some (.ref 87), some (.int (nI i))] [] sg (rg b) I L := by
  simp (disch := omega) only [bL, zZ]
  refine p_seeker hR (fun y b' I' L' hm => ?_)
  simp (disch := omega) only [bL, zZ]
  refine hm _ (fun I2 L2 hR2 => ?_)
  have h := ih b' I2 L2 hR2
  simp (disch := omega) only [bL, zZ, eq_s, lg_0]
  exact h
theorem lc_habit (hN : N ≤ 2048) (hR : zRl b I L) (hi : i + 4 ≤ N) (ih : ∀ b' I' L', zRl b' I' L' → zlw N xs (d + 20) Q 805 [some (.ref 7000), some (.ref 0), some (.ref 87), some (.int (nI i))] [] sg (rg b') I' L') : zlw N xs (d + 20) Q 303 [some (.ref 7000), some (.ref 0), some (.ref 87), some (.int (nI i))] [] sg (rg b) I L := by
  simp (disch := omega) only [bL, zZ]
  refine p_habit hR (fun y b' I' L' hm => ?_)
  simp (disch := omega) only [bL, zZ]
  refine hm _ (fun I2 L2 hR2 => ?_)
  have h := ih b' I2 L2 hR2
  simp (disch := omega) only [bL, zZ, eq_s, lg_0]
  exact h
theorem lc_puts (hN : N ≤ 2048) (hR : zRl b I L) (hi : i + 4 ≤ N) (ih : ∀ b' I' L', zRl b' I' L' → zlw N xs (d + 20) Q 805 [some (.ref 7000), some (.ref 0), some (.ref 87), some (.int (nI i))] [] sg (rg b') I' L') : zlw N xs (d + 20) Q 336 [some (.ref 7000), some (.ref 0), some (.ref 87), some (.int (nI i))] [] sg (rg b) I L := by
  simp (disch := omega) only [bL, zZ]
  refine p_puts hR (fun y b' I' L' hm => ?_)
  simp (disch := omega) only [bL, zZ]
  refine hm _ (fun I2 L2 hR2 => ?_)
  have h := ih b' I2 L2 hR2
  simp (disch := omega) only [bL, zZ, eq_s, lg_0]
  exact h
theorem lc_looks (hN : N ≤ 2048) (hR : zRl b I L) (hi : i + 4 ≤ N) (ih : ∀ b' I' L', zRl b' I' L' → zlw N xs (d + 20) Q 805 [some (.ref 7000), some (.ref 0), some (.ref 87), some (.int (nI i))] [] sg (rg b') I' L') : zlw N xs (d + 20) Q 359 [some (.ref 7000), some (.ref 0), some (.ref 87), some (.int (nI i))] [] sg (rg b) I L := by
  simp (disch := omega) only [bL, zZ]
  refine p_looks hR (fun y b' I' L' hm => ?_)
  simp (disch := omega) only [bL, zZ]
  refine hm _ (fun I2 L2 hR2 => ?_)
  have h := ih b' I2 L2 hR2
  simp (disch := omega) only [bL, zZ, eq_s, lg_0]
  exact h
theorem lc_week (hN : N ≤ 2048) (hR : zRl b I L) (hi : i + 4 ≤ N) (ih : ∀ b' I' L', zRl b' I' L' → zlw N xs (d + 20) Q 805 [some (.ref 7000), some (.ref 0), some (.ref 87), some (.int (nI i))] [] sg (rg b') I' L') : zlw N xs (d + 20) Q 392 [some (.ref 7000), some (.ref 0), some (.ref 87), some (.int (nI i))] [] sg (rg b) I L := by
  simp (disch := omega) only [bL, zZ]
  refine p_week hR (fun y b' I' L' hm => ?_)
  simp (disch := omega) only [bL, zZ]
  refine hm _ (fun I2 L2 hR2 => ?_)
  have h := ih b' I2 L2 hR2
  simp (disch := omega) only [bL, zZ, eq_s, lg_0]
  exact h
theorem lc_now (hN : N ≤ 2048) (hR : zRl b I L) (hi : i + 4 ≤ N) (ih : ∀ b' I' L', zRl b' I' L' → zlw N xs (d + 20) Q 805 [some (.ref 7000), some (.ref 0), some (.ref 87), some (.int (nI i))] [] sg (rg b') I' L') : zlw N xs (d + 20) Q 405 [some (.ref 7000), some (.ref 0), some (.ref 87), some (.int (nI i))] [] sg (rg b) I L := by
  simp (disch := omega) only [bL, zZ]
  refine p_now hR (fun y b' I' L' hm => ?_)
  simp (disch := omega) only [bL, zZ]
  refine hm _ (fun I2 L2 hR2 => ?_)
  have h := ih b' I2 L2 hR2
  simp (disch := omega) only [bL, zZ, eq_s, lg_0]
  exact h
theorem lc_lot (hN : N ≤ 2048) (hR : zRl b I L) (hi : i + 4 ≤ N) (ih : ∀ b' I' L', zRl b' I' L' → zlw N xs (d + 20) Q 805 [some (.ref 7000), some (.ref 0), some (.ref 87), some (.int (nI i))] [] sg (rg b') I' L') : zlw N xs (d + 20) Q 428 [some (.ref 7000), some (.ref 0), some (.ref 87), some (.int (nI i))] [] sg (rg b) I L := by
  simp (disch := omega) only [bL, zZ]
  refine p_lot hR (fun y b' I' L' hm => ?_)
  simp (disch := omega) only [bL, zZ]
  refine hm _ (fun I2 L2 hR2 => ?_)
  have h := ih b' I2 L2 hR2
  simp (disch := omega) only [bL, zZ, eq_s, lg_0]
  exact h
theorem lc_lies (hN : N ≤ 2048) (hR : zRl b I L) (hi : i + 4 ≤ N) (ih : ∀ b' I' L', zRl b' I' L' → zlw N xs (d + 20) Q 805 [some (.ref 7000), some (.ref 0), some (.ref 87), some (.int (nI i))] [] sg (rg b') I' L') : zlw N xs (d + 20) Q 451 [some (.ref 7000), some (.ref 0), some (.ref 87), some (.int (nI i))] [] sg (rg b) I L := by
  simp (disch := omega) only [bL, zZ]
  refine p_lies hR (fun y b' I' L' hm => ?_)
  simp (disch := omega) only [bL, zZ]
  refine hm _ (fun I2 L2 hR2 => ?_)
  have h := ih b' I2 L2 hR2
  simp (disch := omega) only [bL, zZ, eq_s, lg_0]
  exact h
theorem lc_longest (hN : N ≤ 2048) (hR : zRl b I L) (hi : i + 4 ≤ N) (ih : ∀ b' I' L', zRl b' I' L' → zlw N xs (d + 20) Q 805 [some (.ref 7000), some (.ref 0), some (.ref 87), some (.int (nI i))] [] sg (rg b') I' L') : zlw N xs (d + 20) Q 474 [some (.ref 7000), some (.ref 0), some (.ref 87), some (.int (nI i))] [] sg (rg b) I L := by
  simp (disch := omega) only [bL, zZ]
  refine p_longest hR (fun y b' I' L' hm => ?_)
  simp (disch := omega) only [bL, zZ]
  refine hm _ (fun I2 L2 hR2 => ?_)
  have h := ih b' I2 L2 hR2
  simp (disch := omega) only [bL, zZ, eq_s, lg_0]
  exact h
theorem lc_odds (hN : N ≤ 2048) (hR : zRl b I L) (hi : i + 4 ≤ N) (ih : ∀ b' I' L', zRl b' I' L' → zlw N xs (d + 20) Q 805 [some (.ref 7000), some (.ref 0), some (.ref 87), some (.int (nI i))] [] sg (rg b') I' L') : zlw N xs (d + 20) Q 487 [some (.ref 7000), some (.ref 0), some (.ref 87), some (.int (nI i))] [] sg (rg b) I L := by
  simp (disch := omega) only [bL, zZ]
  refine p_odds hR (fun y b' I' L' hm => ?_)
  simp (disch := omega) only [bL, zZ]
  refine hm _ (fun I2 L2 hR2 => ?_)
  have h := ih b' I2 L2 hR2
  simp (disch := omega) only [bL, zZ, eq_s, lg_0]
  exact h
theorem lc_lots (hN : N ≤ 2048) (hR : zRl b I L) (hi : i + 4 ≤ N) (ih : ∀ b' I' L', zRl b' I' L' → zlw N xs (d + 20) Q 805 [some (.ref 7000), some (.ref 0), some (.ref 87), some (.int (nI i))] [] sg (rg b') I' L') : zlw N xs (d + 20) Q 531 [some (.ref 7000), some (.ref 0), some (.ref 87), some (.int (nI i))] [] sg (rg b) I L := by
  simp (disch := omega) only [bL, zZ]
  refine p_lots hR (fun y b' I' L' hm => ?_)
  simp (disch := omega) only [bL, zZ]
  refine hm _ (fun I2 L2 hR2 => ?_)
  have h := ih b' I2 L2 hR2
  simp (disch := omega) only [bL, zZ, eq_s, lg_0]
  exact h
theorem lc_sweep (hN : N ≤ 2048) (hR : zRl b I L) (hi : i + 4 ≤ N) (ih : ∀ b' I' L', zRl b' I' L' → zlw N xs (d + 20) Q 805 [some (.ref 7000), some (.ref 0), some (.ref 87), some (.int (nI i))] [] sg (rg b') I' L') : zlw N xs (d + 20) Q 564 [some (.ref 7000), some (.ref 0), some (.ref 87), some (.int (nI i))] [] sg (rg b) I L := by
  simp (disch := omega) only [bL, zZ]
  refine p_sweep hR (fun y b' I' L' hm => ?_)
  simp (disch := omega) only [bL, zZ]
  refine hm _ (fun I2 L2 hR2 => ?_)
  have h := ih b' I2 L2 hR2
  simp (disch := omega) only [bL, zZ, eq_s, lg_0]
  exact h
theorem lc_order (hN : N ≤ 2048) (hR : zRl b I L) (hi : i + 4 ≤ N) (ih : ∀ b' I' L', zRl b' I' L' → zlw N xs (d + 20) Q 805 [some (.ref 7000), some (.ref 0), some (.ref 87), some (.int (nI i))] [] sg (rg b') I' L') : zlw N xs (d + 20) Q 587 [some (.ref 7000), some (.ref 0), some (.ref 87), some (.int (nI i))] [] sg (rg b) I L := by
  simp (disch := omega) only [bL, zZ]
  refine p_order hR (fun y b' I' L' hm => ?_)
  simp (disch := omega) only [bL, zZ]
  refine hm _ (fun I2 L2 hR2 => ?_)
  have h := ih b' I2 L2 hR2
  simp (disch := omega) only [bL, zZ, eq_s, lg_0]
  exact h
theorem lc_saw (hN : N ≤ 2048) (hR : zRl b I L) (hi : i + 4 ≤ N) (ih : ∀ b' I' L', zRl b' I' L' → zlw N xs (d + 20) Q 805 [some (.ref 7000), some (.ref 0), some (.ref 87), some (.int (nI i))] [] sg (rg b') I' L') : zlw N xs (d + 20) Q 610 [some (.ref 7000), some (.ref 0), some (.ref 87), some (.int (nI i))] [] sg (rg b) I L := by
  simp (disch := omega) only [bL, zZ]
  refine p_saw hR (fun y b' I' L' hm => ?_)
  simp (disch := omega) only [bL, zZ]
  refine hm _ (fun I2 L2 hR2 => ?_)
  have h := ih b' I2 L2 hR2
  simp (disch := omega) only [bL, zZ, eq_s, lg_0]
  exact h
theorem lc_forget (hN : N ≤ 2048) (hR : zRl b I L) (hi : i + 4 ≤ N) (ih : ∀ b' I' L', zRl b' I' L' → zlw N xs (d + 20) Q 805 [some (.ref 7000), some (.ref 0), some (.ref 87), some (.int (nI i))] [] sg (rg b') I' L') : zlw N xs (d + 20) Q 653 [some (.ref 7000), some (.ref 0), some (.ref 87), some (.int (nI i))] [] sg (rg b) I L := by
  simp (disch := omega) only [bL, zZ]
  refine p_forget hR (fun y b' I' L' hm => ?_)
  simp (disch := omega) only [bL, zZ]
  refine hm _ (fun I2 L2 hR2 => ?_)
  have h := ih b' I2 L2 hR2
  simp (disch := omega) only [bL, zZ, eq_s, lg_0]
  exact h
theorem lc_could (hN : N ≤ 2048) (hR : zRl b I L) (hi : i + 4 ≤ N) (ih : ∀ b' I' L', zRl b' I' L' → zlw N xs (d + 20) Q 805 [some (.ref 7000), some (.ref 0), some (.ref 87), some (.int (nI i))] [] sg (rg b') I' L') : zlw N xs (d + 20) Q 666 [some (.ref 7000), some (.ref 0), some (.ref 87), some (.int (nI i))] [] sg (rg b) I L := by
  simp (disch := omega) only [bL, zZ]
  refine p_could hR (fun y b' I' L' hm => ?_)
  simp (disch := omega) only [bL, zZ]
  refine hm _ (fun I2 L2 hR2 => ?_)
  have h := ih b' I2 L2 hR2
  simp (disch := omega) only [bL, zZ, eq_s, lg_0]
  exact h
theorem lc_mark (hN : N ≤ 2048) (hR : zRl b I L) (hi : i + 4 ≤ N) (ih : ∀ b' I' L', zRl b' I' L' → zlw N xs (d + 20) Q 805 [some (.ref 7000), some (.ref 0), some (.ref 87), some (.int (nI i))] [] sg (rg b') I' L') : zlw N xs (d + 20) Q 689 [some (.ref 7000), some (.ref 0), some (.ref 87), some (.int (nI i))] [] sg (rg b) I L := by
  simp (disch := omega) only [bL, zZ]
  refine p_mark hR (fun y b' I' L' hm => ?_)
  simp (disch := omega) only [bL, zZ]
  refine hm _ (fun I2 L2 hR2 => ?_)
  have h := ih b' I2 L2 hR2
  simp (disch := omega) only [bL, zZ, eq_s, lg_0]
  exact h
theorem lc_keep (hN : N ≤ 2048) (hR : zRl b I L) (hi : i + 4 ≤ N) (ih : ∀ b' I' L', zRl b' I' L' → zlw N xs (d + 20) Q 805 [some (.ref 7000), some (.ref 0), some (.ref 87), some (.int (nI i))] [] sg (rg b') I' L') : zlw N xs (d + 20) Q 722 [some (.ref 7000), some (.ref 0), some (.ref 87), some (.int (nI i))] [] sg (rg b) I L := by
  simp (disch := omega) only [bL, zZ]
  refine p_keep hR (fun y b' I' L' hm => ?_)
  simp (disch := omega) only [bL, zZ]
  refine hm _ (fun I2 L2 hR2 => ?_)
  have h := ih b' I2 L2 hR2
  simp (disch := omega) only [bL, zZ, eq_s, lg_0]
  exact h
theorem lc_back (hN : N ≤ 2048) (hR : zRl b I L) (hi : i + 4 ≤ N) (ih : ∀ b' I' L', zRl b' I' L' → zlw N xs (d + 20) Q 805 [some (.ref 7000), some (.ref 0), some (.ref 87), some (.int (nI i))] [] sg (rg b') I' L') : zlw N xs (d + 20) Q 745 [some (.ref 7000), some (.ref 0), some (.ref 87), some (.int (nI i))] [] sg (rg b) I L := by
  simp (disch := omega) only [bL, zZ]
  refine p_back hR (fun y b' I' L' hm => ?_)
  simp (disch := omega) only [bL, zZ]
  refine hm _ (fun I2 L2 hR2 => ?_)
  have h := ih b' I2 L2 hR2
  simp (disch := omega) only [bL, zZ, eq_s, lg_0]
  exact h
theorem lc_count (hN : N ≤ 2048) (hR : zRl b I L) (hi : i + 4 ≤ N) (ih : ∀ b' I' L', zRl b' I' L' → zlw N xs (d + 20) Q 805 [some (.ref 7000), some (.ref 0), some (.ref 87), some (.int (nI i))] [] sg (rg b') I' L') : zlw N xs (d + 20) Q 768 [some (.ref 7000), some (.ref 0), some (.ref 87), some (.int (nI i))] [] sg (rg b) I L := by
  simp (disch := omega) only [bL, zZ]
  refine p_count hR (fun y b' I' L' hm => ?_)
  simp (disch := omega) only [bL, zZ]
  refine hm _ (fun I2 L2 hR2 => ?_)
  have h := ih b' I2 L2 hR2
  simp (disch := omega) only [bL, zZ, eq_s, lg_0]
  exact h
theorem lc_trace (hN : N ≤ 2048) (hR : zRl b I L) (hi : i + 4 ≤ N) (ih : ∀ b' I' L', zRl b' I' L' → zlw N xs (d + 20) Q 805 [some (.ref 7000), some (.ref 0), some (.ref 87), some (.int (nI i))] [] sg (rg b') I' L') : zlw N xs (d + 20) Q 791 [some (.ref 7000), some (.ref 0), some (.ref 87), some (.int (nI i))] [] sg (rg b) I L := by
  simp (disch := omega) only [bL, zZ]
  refine p_trace hR (fun y b' I' L' hm => ?_)
  simp (disch := omega) only [bL, zZ]
  refine hm _ (fun I2 L2 hR2 => ?_)
  have h := ih b' I2 L2 hR2
  simp (disch := omega) only [bL, zZ, eq_s, lg_0]
  exact h
theorem and_31 (x : Int32) : ∃ j, j < 32 ∧ x &&& nI 31 = nI j := by
  refine ⟨x.toBitVec.toNat &&& 31, Nat.lt_of_le_of_lt Nat.and_le_right (by decide), ?_⟩
  apply Int32.toBitVec_inj.1
  apply BitVec.eq_of_toNat_eq
  rw [Int32.toBitVec_and, BitVec.toNat_and, pk_tn (Nat.lt_of_le_of_lt Nat.and_le_right (by decide))]
  rfl
theorem lw_loop (hN : N ≤ 2048) (hQ : ∀ σ ρ I L, Q (some (.int (nI 1))) σ ρ I L) : ∀ k i b I L, N ≤ i + 4 * k → i ≤ N + 4 → zRl b I L → zlw N xs (d + 20) Q 18 [some (.ref 7000), some (.ref 0), some (.ref 87), some (.int (nI i))] [] sg (rg b) I L := by
  intro k
  induction k with
  | zero =>
    intro i b I L h1 h2 hR
    rw [eL_18]
    have hlt : nI N - nI 4 < nI i := by
      rw [Int32.lt_iff_toInt_lt, nI_toInt (by omega), pk_sub_toInt (a := N) (b := 4) (by omega) (by decide)]; omega
    simp (disch := omega) only [eL_19, eL_20, eL_21, eL_22, eL_23, eL_811, eL_812, zZ, hlt]
    exact hQ _ _ _ _
  | succ k ih =>
    intro i b I L h1 h2 hR
    rw [eL_18]
    by_cases c : i + 4 ≤ N
    · have hle := c
      have hlt : ¬ nI N - nI 4 < nI i := by
        rw [Int32.lt_iff_toInt_lt, nI_toInt (by omega), pk_sub_toInt (a := N) (b := 4) (by omega) (by decide)]; omega
      have ih805 : ∀ b' I' L', zRl b' I' L' → zlw N xs (d + 20) Q 805 [some (.ref 7000), some (.ref 0), some (.ref 87), some (.int (nI i))] [] sg (rg b') I' L' := by
        intro b' I' L' hR'
        have h := ih (i + 4) b' I' L' (by omega) (by omega) hR'
        rw [eL_805]
        simp (disch := omega) only [eL_808, zZ]
        exact h
      obtain ⟨j, hj, e⟩ := and_31 (xs i)
      have key : zlw N xs (d + 20) Q (zsw (nI j) 0 24 [148, 211, 224, 237, 270, 303, 336, 359, 392, 405, 428, 451, 474, 487, 531, 564, 587, 610, 653, 666, 689, 722, 745, 768, 791] 805) [some (.ref 7000), some (.ref 0), some (.ref 87), some (.int (nI i))] [] sg (rg b) I L := by
        have hj32 : j = 0 ∨ j = 1 ∨ j = 2 ∨ j = 3 ∨ j = 4 ∨ j = 5 ∨ j = 6 ∨ j = 7 ∨ j = 8 ∨ j = 9 ∨ j = 10 ∨ j = 11 ∨ j = 12 ∨ j = 13 ∨ j = 14 ∨ j = 15 ∨ j = 16 ∨ j = 17 ∨ j = 18 ∨ j = 19 ∨ j = 20 ∨ j = 21 ∨ j = 22 ∨ j = 23 ∨ j = 24 ∨ j = 25 ∨ j = 26 ∨ j = 27 ∨ j = 28 ∨ j = 29 ∨ j = 30 ∨ j = 31 := by omega
        rcases hj32 with rfl | rfl | rfl | rfl | rfl | rfl | rfl | rfl | rfl | rfl | rfl | rfl | rfl | rfl | rfl | rfl | rfl | rfl | rfl | rfl | rfl | rfl | rfl | rfl | rfl | rfl | rfl | rfl | rfl | rfl | rfl | rfl
        · rw [show zsw (nI 0) 0 24 [148, 211, 224, 237, 270, 303, 336, 359, 392, 405, 428, 451, 474, 487, 531, 564, 587, 610, 653, 666, 689, 722, 745, 768, 791] 805 = 148 from rfl]
          exact lc_type hN hR hle ih805
        · rw [show zsw (nI 1) 0 24 [148, 211, 224, 237, 270, 303, 336, 359, 392, 405, 428, 451, 474, 487, 531, 564, 587, 610, 653, 666, 689, 722, 745, 768, 791] 805 = 211 from rfl]
          exact lc_clear hN hR hle ih805
        · rw [show zsw (nI 2) 0 24 [148, 211, 224, 237, 270, 303, 336, 359, 392, 405, 428, 451, 474, 487, 531, 564, 587, 610, 653, 666, 689, 722, 745, 768, 791] 805 = 224 from rfl]
          exact lc_town hN hR hle ih805
        · rw [show zsw (nI 3) 0 24 [148, 211, 224, 237, 270, 303, 336, 359, 392, 405, 428, 451, 474, 487, 531, 564, 587, 610, 653, 666, 689, 722, 745, 768, 791] 805 = 237 from rfl]
          exact lc_place hN hR hle ih805
        · rw [show zsw (nI 4) 0 24 [148, 211, 224, 237, 270, 303, 336, 359, 392, 405, 428, 451, 474, 487, 531, 564, 587, 610, 653, 666, 689, 722, 745, 768, 791] 805 = 270 from rfl]
          exact lc_seeker hN hR hle ih805
        · rw [show zsw (nI 5) 0 24 [148, 211, 224, 237, 270, 303, 336, 359, 392, 405, 428, 451, 474, 487, 531, 564, 587, 610, 653, 666, 689, 722, 745, 768, 791] 805 = 303 from rfl]
          exact lc_habit hN hR hle ih805
        · rw [show zsw (nI 6) 0 24 [148, 211, 224, 237, 270, 303, 336, 359, 392, 405, 428, 451, 474, 487, 531, 564, 587, 610, 653, 666, 689, 722, 745, 768, 791] 805 = 336 from rfl]
          exact lc_puts hN hR hle ih805
        · rw [show zsw (nI 7) 0 24 [148, 211, 224, 237, 270, 303, 336, 359, 392, 405, 428, 451, 474, 487, 531, 564, 587, 610, 653, 666, 689, 722, 745, 768, 791] 805 = 359 from rfl]
          exact lc_looks hN hR hle ih805
        · rw [show zsw (nI 8) 0 24 [148, 211, 224, 237, 270, 303, 336, 359, 392, 405, 428, 451, 474, 487, 531, 564, 587, 610, 653, 666, 689, 722, 745, 768, 791] 805 = 392 from rfl]
          exact lc_week hN hR hle ih805
        · rw [show zsw (nI 9) 0 24 [148, 211, 224, 237, 270, 303, 336, 359, 392, 405, 428, 451, 474, 487, 531, 564, 587, 610, 653, 666, 689, 722, 745, 768, 791] 805 = 405 from rfl]
          exact lc_now hN hR hle ih805
        · rw [show zsw (nI 10) 0 24 [148, 211, 224, 237, 270, 303, 336, 359, 392, 405, 428, 451, 474, 487, 531, 564, 587, 610, 653, 666, 689, 722, 745, 768, 791] 805 = 428 from rfl]
          exact lc_lot hN hR hle ih805
        · rw [show zsw (nI 11) 0 24 [148, 211, 224, 237, 270, 303, 336, 359, 392, 405, 428, 451, 474, 487, 531, 564, 587, 610, 653, 666, 689, 722, 745, 768, 791] 805 = 451 from rfl]
          exact lc_lies hN hR hle ih805
        · rw [show zsw (nI 12) 0 24 [148, 211, 224, 237, 270, 303, 336, 359, 392, 405, 428, 451, 474, 487, 531, 564, 587, 610, 653, 666, 689, 722, 745, 768, 791] 805 = 474 from rfl]
          exact lc_longest hN hR hle ih805
        · rw [show zsw (nI 13) 0 24 [148, 211, 224, 237, 270, 303, 336, 359, 392, 405, 428, 451, 474, 487, 531, 564, 587, 610, 653, 666, 689, 722, 745, 768, 791] 805 = 487 from rfl]
          exact lc_odds hN hR hle ih805
        · rw [show zsw (nI 14) 0 24 [148, 211, 224, 237, 270, 303, 336, 359, 392, 405, 428, 451, 474, 487, 531, 564, 587, 610, 653, 666, 689, 722, 745, 768, 791] 805 = 531 from rfl]
          exact lc_lots hN hR hle ih805
        · rw [show zsw (nI 15) 0 24 [148, 211, 224, 237, 270, 303, 336, 359, 392, 405, 428, 451, 474, 487, 531, 564, 587, 610, 653, 666, 689, 722, 745, 768, 791] 805 = 564 from rfl]
          exact lc_sweep hN hR hle ih805
        · rw [show zsw (nI 16) 0 24 [148, 211, 224, 237, 270, 303, 336, 359, 392, 405, 428, 451, 474, 487, 531, 564, 587, 610, 653, 666, 689, 722, 745, 768, 791] 805 = 587 from rfl]
          exact lc_order hN hR hle ih805
        · rw [show zsw (nI 17) 0 24 [148, 211, 224, 237, 270, 303, 336, 359, 392, 405, 428, 451, 474, 487, 531, 564, 587, 610, 653, 666, 689, 722, 745, 768, 791] 805 = 610 from rfl]
          exact lc_saw hN hR hle ih805
        · rw [show zsw (nI 18) 0 24 [148, 211, 224, 237, 270, 303, 336, 359, 392, 405, 428, 451, 474, 487, 531, 564, 587, 610, 653, 666, 689, 722, 745, 768, 791] 805 = 653 from rfl]
          exact lc_forget hN hR hle ih805
        · rw [show zsw (nI 19) 0 24 [148, 211, 224, 237, 270, 303, 336, 359, 392, 405, 428, 451, 474, 487, 531, 564, 587, 610, 653, 666, 689, 722, 745, 768, 791] 805 = 666 from rfl]
          exact lc_could hN hR hle ih805
        · rw [show zsw (nI 20) 0 24 [148, 211, 224, 237, 270, 303, 336, 359, 392, 405, 428, 451, 474, 487, 531, 564, 587, 610, 653, 666, 689, 722, 745, 768, 791] 805 = 689 from rfl]
          exact lc_mark hN hR hle ih805
        · rw [show zsw (nI 21) 0 24 [148, 211, 224, 237, 270, 303, 336, 359, 392, 405, 428, 451, 474, 487, 531, 564, 587, 610, 653, 666, 689, 722, 745, 768, 791] 805 = 722 from rfl]
          exact lc_keep hN hR hle ih805
        · rw [show zsw (nI 22) 0 24 [148, 211, 224, 237, 270, 303, 336, 359, 392, 405, 428, 451, 474, 487, 531, 564, 587, 610, 653, 666, 689, 722, 745, 768, 791] 805 = 745 from rfl]
          exact lc_back hN hR hle ih805
        · rw [show zsw (nI 23) 0 24 [148, 211, 224, 237, 270, 303, 336, 359, 392, 405, 428, 451, 474, 487, 531, 564, 587, 610, 653, 666, 689, 722, 745, 768, 791] 805 = 768 from rfl]
          exact lc_count hN hR hle ih805
        · rw [show zsw (nI 24) 0 24 [148, 211, 224, 237, 270, 303, 336, 359, 392, 405, 428, 451, 474, 487, 531, 564, 587, 610, 653, 666, 689, 722, 745, 768, 791] 805 = 791 from rfl]
          exact lc_trace hN hR hle ih805
        · rw [show zsw (nI 25) 0 24 [148, 211, 224, 237, 270, 303, 336, 359, 392, 405, 428, 451, 474, 487, 531, 564, 587, 610, 653, 666, 689, 722, 745, 768, 791] 805 = 805 from rfl]
          exact ih805 _ _ _ hR
        · rw [show zsw (nI 26) 0 24 [148, 211, 224, 237, 270, 303, 336, 359, 392, 405, 428, 451, 474, 487, 531, 564, 587, 610, 653, 666, 689, 722, 745, 768, 791] 805 = 805 from rfl]
          exact ih805 _ _ _ hR
        · rw [show zsw (nI 27) 0 24 [148, 211, 224, 237, 270, 303, 336, 359, 392, 405, 428, 451, 474, 487, 531, 564, 587, 610, 653, 666, 689, 722, 745, 768, 791] 805 = 805 from rfl]
          exact ih805 _ _ _ hR
        · rw [show zsw (nI 28) 0 24 [148, 211, 224, 237, 270, 303, 336, 359, 392, 405, 428, 451, 474, 487, 531, 564, 587, 610, 653, 666, 689, 722, 745, 768, 791] 805 = 805 from rfl]
          exact ih805 _ _ _ hR
        · rw [show zsw (nI 29) 0 24 [148, 211, 224, 237, 270, 303, 336, 359, 392, 405, 428, 451, 474, 487, 531, 564, 587, 610, 653, 666, 689, 722, 745, 768, 791] 805 = 805 from rfl]
          exact ih805 _ _ _ hR
        · rw [show zsw (nI 30) 0 24 [148, 211, 224, 237, 270, 303, 336, 359, 392, 405, 428, 451, 474, 487, 531, 564, 587, 610, 653, 666, 689, 722, 745, 768, 791] 805 = 805 from rfl]
          exact ih805 _ _ _ hR
        · rw [show zsw (nI 31) 0 24 [148, 211, 224, 237, 270, 303, 336, 359, 392, 405, 428, 451, 474, 487, 531, 564, 587, 610, 653, 666, 689, 722, 745, 768, 791] 805 = 805 from rfl]
          exact ih805 _ _ _ hR

      simp (disch := omega) only [eL_19, eL_20, eL_21, eL_22, eL_23, eL_26, eL_27, eL_28, eL_29, eL_31, eL_32, zZ, hlt, e, if_false]
      exact key
    · have hlt : nI N - nI 4 < nI i := by
        rw [Int32.lt_iff_toInt_lt, nI_toInt (by omega), pk_sub_toInt (a := N) (b := 4) (by omega) (by decide)]; omega
      simp (disch := omega) only [eL_19, eL_20, eL_21, eL_22, eL_23, eL_811, eL_812, zZ, hlt]
      exact hQ _ _ _ _
end S
