/-! THE CLASS: odds -/
/-- the memory of the Chances: after, lying, found; where habits stop -/
def zlc (L : zLm) (A Y F : Nat → Nat) : zLm := fun a j => if j < 6 then (if a = 64 then lN (A j) else if a = 65 then lN (Y j) else if a = 66 then lN (F j) else L a j) else L a j
def zic (I : zIm) (n : Nat → Nat) : zIm := fun a j => if a = 67 ∧ j < 4 then nI (n j) else I a j
section ZL
variable {L : zLm} {I : zIm} {A Y F n : Nat → Nat} {j v : Nat}
theorem zlc_4 (h : j < 6) : zlc L A Y F 64 j = lN (A j) := (if_pos h).trans (if_pos rfl)
theorem zlc_5 (h : j < 6) : zlc L A Y F 65 j = lN (Y j) := (if_pos h).trans ((if_neg (by decide)).trans (if_pos rfl))
theorem zlc_6 (h : j < 6) : zlc L A Y F 66 j = lN (F j) := (if_pos h).trans ((if_neg (by decide)).trans ((if_neg (by decide)).trans (if_pos rfl)))
theorem zlc_r {a : Nat} (h4 : a ≠ 64) (h5 : a ≠ 65) (h6 : a ≠ 66) : zlc L A Y F a = L a := by
  funext j; unfold zlc; rw [if_neg h4, if_neg h5, if_neg h6]; split <;> rfl
theorem zlc_u4 (h : j < 6) : zup (zlc L A Y F) 64 j (lN v) = zlc L (pup A j v) Y F := by
  funext a i; unfold zup zlc pup
  by_cases c : a = 64 ∧ i = j
  · rw [if_pos c, if_pos (by omega), if_pos c.1, if_pos c.2]
  · rw [if_neg c]
    by_cases c1 : i < 6
    · rw [if_pos c1, if_pos c1]
      by_cases c2 : a = 64
      · rw [if_pos c2, if_pos c2, if_neg (fun q => c ⟨c2, q⟩)]
      · rw [if_neg c2, if_neg c2]
    · rw [if_neg c1, if_neg c1]
theorem zlc_u5 (h : j < 6) : zup (zlc L A Y F) 65 j (lN v) = zlc L A (pup Y j v) F := by
  funext a i; unfold zup zlc pup
  by_cases c : a = 65 ∧ i = j
  · rw [if_pos c, if_pos (by omega), if_neg (by omega), if_pos c.1, if_pos c.2]
  · rw [if_neg c]
    by_cases c1 : i < 6
    · rw [if_pos c1, if_pos c1]
      by_cases c2 : a = 65
      · rw [if_pos c2, if_pos c2, if_neg (fun q => c ⟨c2, q⟩)]
      · rw [if_neg c2, if_neg c2]
    · rw [if_neg c1, if_neg c1]
theorem zlc_u6 (h : j < 6) : zup (zlc L A Y F) 66 j (lN v) = zlc L A Y (pup F j v) := by
  funext a i; unfold zup zlc pup
  by_cases c : a = 66 ∧ i = j
  · rw [if_pos c, if_pos (by omega), if_neg (by omega), if_neg (by omega), if_pos c.1, if_pos c.2]
  · rw [if_neg c]
    by_cases c1 : i < 6
    · rw [if_pos c1, if_pos c1]
      by_cases c2 : a = 66
      · rw [if_pos c2, if_pos c2, if_neg (fun q => c ⟨c2, q⟩)]
      · rw [if_neg c2, if_neg c2]
    · rw [if_neg c1, if_neg c1]
theorem zlc_f4 : fil (zlc L A Y F) 64 0 (fun _ => 0) 6 = zlc L (fun _ => 0) Y F := by
  funext a i; unfold fil zlc
  by_cases c : a = 64 ∧ i < 6
  · rw [if_pos (by omega), if_pos c.2, if_pos c.1]; rfl
  · rw [if_neg (by omega)]
    by_cases c1 : i < 6
    · rw [if_pos c1, if_pos c1, if_neg (show ¬ a = 64 by omega)]
      exact (if_neg (show ¬ a = 64 by omega)).symm
    · rw [if_neg c1, if_neg c1]
theorem zlc_f5 : fil (zlc L A Y F) 65 0 (fun _ => 0) 6 = zlc L A (fun _ => 0) F := by
  funext a i; unfold fil zlc
  by_cases c : a = 65 ∧ i < 6
  · rw [if_pos (by omega), if_pos c.2, if_neg (by omega), if_pos c.1]; rfl
  · rw [if_neg (by omega)]
    by_cases c1 : i < 6
    · rw [if_pos c1, if_pos c1]
      by_cases c2 : a = 64
      · rw [if_pos c2, if_pos c2]
      · rw [if_neg c2, if_neg c2, if_neg (show ¬ a = 65 by omega)]
        exact (if_neg (show ¬ a = 65 by omega)).symm
    · rw [if_neg c1, if_neg c1]
theorem lN_of (x : Int64) : x = lN x.toBitVec.toNat := by
  apply Int64.toBitVec_inj.1
  apply BitVec.eq_of_toNat_eq
  show x.toBitVec.toNat = (BitVec.ofNat 64 x.toBitVec.toNat).toNat
  rw [BitVec.toNat_ofNat, Nat.mod_eq_of_lt x.toBitVec.isLt]
theorem zlc_any (L : zLm) : ∃ A Y F, L = zlc L A Y F := by
  refine ⟨fun j => (L 64 j).toBitVec.toNat, fun j => (L 65 j).toBitVec.toNat, fun j => (L 66 j).toBitVec.toNat, ?_⟩
  funext a j; unfold zlc
  split
  · split
    · rename_i e; rw [e]; exact lN_of _
    · split
      · rename_i e; rw [e]; exact lN_of _
      · split
        · rename_i e; rw [e]; exact lN_of _
        · rfl
  · rfl
theorem zic_7 (h : j < 4) : zic I n 67 j = nI (n j) := if_pos ⟨rfl, h⟩
theorem zic_r {a : Nat} (h : a ≠ 67) : zic I n a = I a := by
  funext j; exact if_neg (fun q => h q.1)
theorem zic_u (h : j < 4) : zup (zic I n) 67 j (nI v) = zic I (pup n j v) := by
  funext a i; unfold zup zic pup
  by_cases c : a = 67 ∧ i = j
  · rw [if_pos c, if_pos (by omega), if_pos c.2]
  · rw [if_neg c]
    by_cases c1 : a = 67 ∧ i < 4
    · rw [if_pos c1, if_pos c1, if_neg (fun q => c ⟨c1.1, q⟩)]
    · rw [if_neg c1, if_neg c1]
theorem zic_t {x : Bool} {c : Nat} : zic I n (tc x c) = I (tc x c) := zic_r (fun q => by have := tc_r x c; omega)
theorem zic_s {s c : Nat} : zic I n (sc s c) = I (sc s c) := zic_r (fun q => by have := sc_r s c; omega)
theorem zTc_ic {T : zT} {x : Bool} (hT : zTc T x I) : zTc T x (zic I n) := by
  unfold zTc at hT ⊢
  simp only [zic_t]
  exact hT
end ZL
/-- a share more at some places -/
def yad (m x : Nat) (Y : Nat → Nat) (k : Nat) : Nat → Nat := fun q => if q < k ∧ m / 2 ^ q % 2 = 1 then Y q + x else Y q
theorem yad_0 {m x : Nat} {Y : Nat → Nat} : yad m x Y 0 = Y := funext fun q => if_neg (fun h => Nat.not_lt_zero q h.1)
theorem yad_y {m x k : Nat} {Y : Nat → Nat} (h : m / 2 ^ k % 2 = 1) : yad m x Y (k + 1) = pup (yad m x Y k) k (yad m x Y k k + x) := by
  funext q; unfold yad pup
  by_cases c : q = k
  · rw [if_pos c, c, if_pos ⟨by omega, h⟩, if_neg (fun q => by omega)]
  · rw [if_neg c]
    show _ = if q < k ∧ m / 2 ^ q % 2 = 1 then Y q + x else Y q
    by_cases c2 : q < k ∧ m / 2 ^ q % 2 = 1
    · rw [if_pos c2, if_pos ⟨by omega, c2.2⟩]
    · rw [if_neg c2, if_neg (fun q2 => c2 ⟨by omega, q2.2⟩)]
theorem yad_n {m x k : Nat} {Y : Nat → Nat} (h : ¬ m / 2 ^ k % 2 = 1) : yad m x Y (k + 1) = yad m x Y k := by
  funext q; unfold yad
  by_cases c : q = k
  · rw [c, if_neg (fun q => h q.2), if_neg (fun q => h q.2)]
  · by_cases c2 : q < k ∧ m / 2 ^ q % 2 = 1
    · rw [if_pos c2, if_pos ⟨by omega, c2.2⟩]
    · rw [if_neg c2, if_neg (fun q2 => c2 ⟨by omega, q2.2⟩)]
theorem yad_x0 {m k : Nat} {Y : Nat → Nat} : yad m 0 Y k = Y := by
  funext q; unfold yad; split <;> rfl
/-- what a sum makes of it -/
theorem yad_g {m x k : Nat} {Y : Nat → Nat} {G : Nat → Nat → Nat} (hm : m < 2 ^ k) (hG : ∀ q, q < k → G q (Y q + x) = G q (Y q) + G q x) : ∀ n, n ≤ k → sN (fun q => G q (yad m x Y 6 q)) n = sN (fun q => G q (Y q)) n + sB m (fun q => G q x) n ∨ 6 < k
  | 0, _ => Or.inl rfl
  | n + 1, h => by
    by_cases h6 : 6 < k
    · exact Or.inr h6
    · rcases yad_g hm hG n (by omega) with ih | ih
      · refine Or.inl ?_
        rw [sN_s, sN_s, sB_s, ih]
        by_cases c : m / 2 ^ n % 2 = 1
        · rw [if_pos c, show yad m x Y 6 n = Y n + x from if_pos ⟨by omega, c⟩, hG n (by omega)]; omega
        · rw [if_neg c, show yad m x Y 6 n = Y n from if_neg (fun q => c q.2)]; omega
      · exact absurd ih h6
section S
variable {d : Nat} {Q : zPo} {σ : zSh} {ρ : zRf} {I : zIm} {L : zLm} {b x : Bool} {T : zT} {S : zU} {A Y F n : Nat → Nat}
theorem k_fillL {c m : Nat} {v : Int64} (hc : c < sg.1) (hs : sg.2 c = (22, m)) (hm : m < 2 ^ 30) : zW (d + 1) mJ7_fill_d0a16 [.ref c, .long v] sg ρ I L Q = Q none sg ρ I (fil L c 0 (fun _ => v) m) := by
  have h98 : c < 98 := hc
  have e1 : (sg.2 c).1 = 22 := by rw [hs]
  have e2 : (sg.2 c).2 = m := by rw [hs]
  have e3 : ∀ i, zin sg c 22 i = vp_in i m := fun i => zin_at hc hs
  have h : ∀ k, k ≤ m → zq d mJ7_fill_d0a16 Q 6 [some (.ref c), some (.long v), none, some (.int (nI k)), some (.int (nI m))] [] sg ρ I (fil L c 0 (fun _ => v) k) = Q none sg ρ I (fil L c 0 (fun _ => v) m) := by
    refine z_down m ?_ (fun k hk ih => ?_)
    · rw [eJ7_fill_d0a16_6]
      simp (disch := omega) only [bJ7_fill_d0a16, zZ, if_pos]
    · rw [eJ7_fill_d0a16_6]
      simp (disch := omega) only [bJ7_fill_d0a16, zZ, if_neg, e3]
      rw [show zup (fil L c 0 (fun _ => v) k) c k v = fil L c 0 (fun _ => v) (k + 1) from fil_s0]
      exact ih
  have h0 := h 0 (Nat.zero_le _)
  rw [fil_0] at h0
  simp (disch := omega) only [nJ7_fill_d0a16, bJ7_fill_d0a16, zZ, e1, e2, hc, show (20 : Nat) ≤ 22 by decide, show (22 : Nat) ≤ 25 by decide]
  exact h0
theorem k_share {m v : Nat} (hm : m < 64) (hv : v < 2 ^ 62) : zW (d + 2) mX0_share [.ref 63, .long (lN v), .int (nI m)] sg (rg b) I (zlc L A Y F) Q = Q none sg (rg b) I (zlc L A (if m = 0 then Y else yad m (v / cnt m 8) Y 6) F) := by
  have hc8 := cnt_le m 8
  by_cases c : m = 0
  · subst c
    simp (disch := omega) only [nX0_share, bX0_share, zZ, k_bits hm, if_pos, show cnt 0 8 = 0 from rfl, if_true]
  · rw [if_neg c]
    have hp := cnt_pos m hm c
    have hne : ¬ lN (cnt m 8) = 0 := by rw [lN_0, pk_lEQ (by omega) (by omega)]; omega
    have h : ∀ q, q ≤ 6 → zq (d + 1) mX0_share Q 15 [some (.ref 63), some (.long (lN v)), none, some (.int (nI m)), some (.int (nI (cnt m 8))), some (.int (nI q))] [] sg (rg b) I (zlc L A (yad m (v / cnt m 8) Y q) F) = Q none sg (rg b) I (zlc L A (yad m (v / cnt m 8) Y 6) F) := by
      refine z_down 6 ?_ (fun q hq ih => ?_)
      · rw [eX0_share_15]
        simp (disch := omega) only [bX0_share, zZ, if_pos]
      · rw [eX0_share_15]
        rcases Nat.mod_two_eq_zero_or_one (m / 2 ^ q) with e | e
        · rw [yad_n (by omega)] at ih
          simp (disch := omega) only [bX0_share, zZ, b_tst, e, if_pos, if_neg]
          exact ih
        · rw [yad_y e] at ih
          simp (disch := omega) only [bX0_share, zZ, b_tst, e, if_pos, if_neg, zlc_5, nI_l, hne, pk_lDiv, lN_add, zlc_u5]
          exact ih
    have h0 := h 0 (Nat.zero_le _)
    rw [yad_0] at h0
    simp (disch := omega) only [nX0_share, bX0_share, zZ, k_bits hm, if_neg]
    exact h0
end S
