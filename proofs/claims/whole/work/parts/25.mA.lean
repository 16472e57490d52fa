/-! THE MODEL'S SMALL METHODS -/
section S
variable {d : Nat} {Q : zPo} {σ : zSh} {ρ : zRf} {I : zIm} {L : zLm} {b : Bool} {T : zT}
theorem s_in {v a b : Int32} : zW (d + 1) mX11_in [.int v, .int a, .int b] σ ρ I L Q = Q (some (.int (if a ≤ v ∧ v ≤ b then nI 1 else nI 0))) σ ρ I L := by
  simp only [nX11_in, bX11_in, znw_0, znw_1, true_and]
  by_cases h : v < a
  · rw [if_pos h, if_neg (fun q => absurd q.1 (Int32.not_le.2 h))]
  · rw [if_neg h]
    by_cases h2 : b < v
    · rw [if_pos h2, if_neg (fun q => absurd q.2 (Int32.not_le.2 h2))]
    · rw [if_neg h2, if_pos ⟨Int32.not_lt.1 h, Int32.not_lt.1 h2⟩]
theorem s_isPlace {p : Int32} (h0 : I 89 0 = nI (tpn T)) : zW (d + 2) mX11_isPlace [.ref 87, .int p] sg (rg b) I L Q = Q (some (.int (if nI 0 ≤ p ∧ p ≤ nI (tpn T) - nI 1 then nI 1 else nI 0))) sg (rg b) I L := by
  simp (disch := omega) only [nX11_isPlace, bX11_isPlace, s_in, tL_some, znw_z, true_and, vp_in_nI, nI_clamp, h0]
theorem s_isSeeker {p : Int32} (h0 : I 89 1 = nI (tsn T)) : zW (d + 2) mX11_isSeeker [.ref 87, .int p] sg (rg b) I L Q = Q (some (.int (if nI 0 ≤ p ∧ p ≤ nI (tsn T) - nI 1 then nI 1 else nI 0))) sg (rg b) I L := by
  simp (disch := omega) only [nX11_isSeeker, bX11_isSeeker, s_in, tL_some, znw_z, true_and, vp_in_nI, nI_clamp, h0]
theorem s_ones {m : Nat} (hm : m < 64) : zW (d + 1) mX11_ones [.int (nI m)] σ ρ I L Q = Q (some (.int (nI (cnt m 8)))) σ ρ I L := by
  have h : ∀ k, k ≤ 8 → zq d mX11_ones Q 4 [some (.int (nI m)), some (.int (nI (cnt m k))), some (.int (nI k))] [] σ ρ I L = zq d mX11_ones Q 4 [some (.int (nI m)), some (.int (nI (cnt m 8))), some (.int (nI 8))] [] σ ρ I L := by
    refine z_iter 8 (fun k hk => ?_)
    rw [eX11_ones_4]
    have := cnt_le m k
    simp (disch := omega) only [bX11_ones, nI_leI, if_neg, b_tst, nI_add]
    rfl
  simp only [nX11_ones, bX11_ones]
  refine (h 0 (by decide)).trans ?_
  rw [eX11_ones_4]
  have := cnt_le m 8
  simp (disch := omega) only [bX11_ones, nI_leI, if_pos]
theorem s_member {m i : Nat} (hm : m < 64) (hi : i < 64) : zW (d + 1) mX11_member [.int (nI m), .int (nI i)] σ ρ I L Q = Q (some (.int (zfn (mbr m i 8)))) σ ρ I L := by
  have h : ∀ k, k ≤ 8 → ∀ l, zq d mX11_member Q 8 [some (.int (nI m)), some (.int (nI i)), some (.int (nI (cnt m k))), some (.int (zfn (mbr m i k))), some (.int (nI k)), l] [] σ ρ I L = Q (some (.int (zfn (mbr m i 8)))) σ ρ I L := by
    refine z_down 8 ?_ ?_
    · intro l
      rw [eX11_member_8]
      have := cnt_le m 8
      simp (disch := omega) only [bX11_member, zZ, if_pos]
    · intro k hk ih l
      rw [eX11_member_8]
      have := cnt_le m k
      simp only [cnt_s m k, mbr_s m i k] at ih
      rcases Nat.mod_two_eq_zero_or_one (m / 2 ^ k) with h | h <;> rw [h] at ih
      · simp (disch := omega) only [bX11_member, zZ, if_neg, if_pos, b_tst, h]
        simpa only [zZ, Nat.zero_ne_one, if_false] using ih _
      · by_cases h2 : cnt m k = i
        · simp (disch := omega) only [bX11_member, zZ, if_neg, if_pos, b_tst, h, h2]
          simpa only [h2, and_self, zZ, if_true, show zfn (some k) = nI k from rfl] using ih _
        · simp (disch := omega) only [bX11_member, zZ, if_neg, if_pos, b_tst, h, h2]
          simpa only [h2, zZ, if_false] using ih _
  simp only [nX11_member, bX11_member]
  exact h 0 (by decide) _
theorem s_drawn {n : Nat} (h0 : 0 < n) (hn : n < 64) : zW (d + 1) mX11_drawn [.ref 87, .int (nI n)] sg ρ I L Q = Q (some (.int (nI (ldr (lnx (I 87 1)) % n)))) sg ρ (zup I 87 1 (lnx (I 87 1))) L := by
  have hl := ldr_lt (lnx (I 87 1))
  have hne : ¬ nI n = 0 := nI_ne0 h0 (by omega)
  have e := @ldr_eq (lnx (I 87 1))
  unfold lnx at e hl
  simp (disch := omega) only [nX11_drawn, bX11_drawn, zZ, hne, not_false_eq_true, e, pk_rem]
  rfl
theorem s_noWorse {p : Nat} (hT : zTo T (I 89)) (hp : p < (tpn T).val) : zW (d + 1) mX11_noWorse [.ref 87, .int (nI p)] sg (rg b) I L Q = Q (some (.int (nI (tnw T p)))) sg (rg b) I L := by
  obtain ⟨h0, h1, h2, h3, h4, h5, h6⟩ := hT
  have h : ∀ k, k ≤ (tpn T).val → zq d mX11_noWorse Q 4 [some (.ref 87), some (.int (nI p)), some (.int (nI (tnu T p k))), some (.int (nI k))] [] sg (rg b) I L = Q (some (.int (nI (tnw T p)))) sg (rg b) I L := by
    refine z_down _ ?_ ?_
    · rw [eX11_noWorse_4]
      simp (disch := omega) only [bX11_noWorse, zZ, h0, if_pos]
      rfl
    · intro k hk ih
      rw [eX11_noWorse_4]
      have := tnu_lt T p k
      have := tnu_64 T p (q := k) (by omega)
      simp (disch := omega) only [bX11_noWorse, zZ, h0, h3, if_neg, b_or0, b_or]
      rw [← ih]
      rw [tnu_s]
      by_cases e1 : k = p
      · simp only [e1, if_true]
      · by_cases e2 : (thd T k).val < (thd T p).val
        · simp only [e1, if_false, e2, if_true]
        · simp only [e1, if_false, e2]
  simp only [nX11_noWorse, bX11_noWorse]
  exact h 0 (Nat.zero_le _)
end S
section S2
variable {d : Nat} {Q : zPo} {I : zIm} {L : zLm} {b : Bool} {T : zT} {nx : Nat → Nat} {r how : Nat} {lot fd : Int32}
theorem s_hides (hT : zTo T (I 89)) (hr : r < (tpn T).val) (hh : I 87 16 = nI how) (hh2 : how < 3) : zW (d + 2) mX11_hides [.ref 87] sg (rg b) (zpm I nx r lot fd) L Q = Q none sg (rg b) (zpm I nx (thi T how r lot).1 (thi T how r lot).2 fd) L := by
  have hT' : zTo T (zpm I nx r lot fd 89) := by rw [zpm_r (by decide) (by decide)]; exact hT
  obtain ⟨h0, h1, h2, h3, h4, h5, h6⟩ := hT
  have hm := tnw_64 T r
  have e0 : zpm I nx r lot fd 89 = I 89 := zpm_r (by decide) (by decide)
  have e16 : zpm I nx r lot fd 87 16 = nI how := hh
  by_cases c : tnw T r = 0
  · rw [show thi T how r lot = (r, lot) from if_pos c]
    simp (disch := omega) only [nX11_hides, bX11_hides, zZ, zpm_13, s_noWorse hT' hr, c]
  have hp := cnt_pos _ hm c
  have hp8 := cnt_le (tnw T r) 8
  by_cases c2 : how = 2
  · obtain ⟨k, k1, k2, k3⟩ := thi_m lot c
    have hlt := Nat.mod_lt (ldr (lnx lot)) hp
    rw [show thi T how r lot = (k, lnx lot) from (if_neg c).trans ((if_pos c2).trans (by rw [k1]; rfl))]
    simp (disch := omega) only [nX11_hides, bX11_hides, zZ, zpm_13, s_noWorse hT' hr, c, e16, c2, s_ones, s_drawn, s_member, zpm_1, zpm_u1, k1, zfn_s, zpm_u13]
  · have h : ∀ k, k ≤ (tpn T).val → ∀ l4 l5, zq (d + 1) mX11_hides Q 44 [some (.ref 87), some (.int (nI (tnw T r))), some (.int (zfn (tbe T (decide (how = 1)) r k))), some (.int (nI k)), l4, l5] [] sg (rg b) (zpm I nx r lot fd) L = Q none sg (rg b) (zpm I nx (thi T how r lot).1 (thi T how r lot).2 fd) L := by
      refine z_down _ ?_ ?_
      · intro l4 l5
        rw [eX11_hides_44]
        obtain ⟨k, k1, k2, k3⟩ := thi_b (decide (how = 1)) c
        rw [show thi T how r lot = (k, lot) from (if_neg c).trans ((if_neg c2).trans (by rw [k1]; rfl))]
        simp (disch := omega) only [bX11_hides, zZ, e0, h0, if_pos, k1, zfn_s, zpm_u13]
      · intro k hk ih l4 l5
        rw [eX11_hides_44]
        have hb := tnu_bit T r _ hk
        have hb' : tnw T r / 2 ^ k % 2 = if tin T r k = true then 1 else 0 := hb
        rw [tbe_s] at ih
        cases e : tbe T (decide (how = 1)) r k with
        | none =>
          rw [e] at ih
          by_cases t : tin T r k = true
          · rw [if_pos t] at hb' ih
            simp only [zfn_s] at ih
            simp (disch := omega) only [bX11_hides, zZ, e0, h0, h3, if_neg, e16, b_tst, hb', zfn_n, m9_le, m9_lt, if_pos, ih, ite_self]
          · rw [if_neg t] at hb' ih
            simp only [zfn_n] at ih
            simp (disch := omega) only [bX11_hides, zZ, e0, h0, h3, if_neg, e16, b_tst, hb', zfn_n, m9_le, m9_lt, if_pos, ih, ite_self]
        | some f =>
          have hf := (tbe_lt T _ r k f e).1
          rw [e] at ih
          by_cases t : tin T r k = true
          · rw [if_pos t] at hb' ih
            simp only at ih
            by_cases w : how = 0
            · subst w
              have h01 : decide (0 = 1) = false := rfl
              simp only [h01, tbt, Bool.false_eq_true, if_false, decide_eq_true_eq] at ih
              by_cases v : (thd T k).val < (thd T f).val
              · simp only [v, if_true, zfn_s] at ih
                simp (disch := omega) only [bX11_hides, zZ, e0, h0, h3, if_neg, e16, b_tst, hb', zfn_s, nI_m9, if_pos, ih, ite_self]
              · simp only [v, if_false, zfn_s] at ih
                simp (disch := omega) only [bX11_hides, zZ, e0, h0, h3, if_neg, e16, b_tst, hb', zfn_s, nI_m9, if_pos, ih, ite_self]
            · have w1 : how = 1 := by omega
              subst w1
              have h01 : decide (1 = 1) = true := rfl
              simp only [h01, tbt, if_true, decide_eq_true_eq] at ih
              by_cases v : (thd T f).val < (thd T k).val
              · simp only [v, if_true, zfn_s] at ih
                simp (disch := omega) only [bX11_hides, zZ, e0, h0, h3, if_neg, e16, b_tst, hb', zfn_s, nI_m9, if_pos, ih, ite_self]
              · simp only [v, if_false, zfn_s] at ih
                simp (disch := omega) only [bX11_hides, zZ, e0, h0, h3, if_neg, e16, b_tst, hb', zfn_s, nI_m9, if_pos, ih, ite_self]
          · rw [if_neg t] at hb' ih
            simp only [zfn_s] at ih
            simp (disch := omega) only [bX11_hides, zZ, e0, h0, h3, if_neg, e16, b_tst, hb', zfn_s, nI_m9, if_pos, ih, ite_self]
    simp (disch := omega) only [nX11_hides, bX11_hides, zZ, zpm_13, s_noWorse hT' hr, c, e16, c2]
    exact h 0 (Nat.zero_le _) _ _
theorem s_finds {k i : Nat} (hT : zTo T (I 89)) (hw : zTw T) (hk : k < (tsn T).val) (hr : r < (tpn T).val) (hi : nx k = i) (hl : i < (tln T k).val) : zW (d + 1) mX11_finds [.ref 87, .int (nI k)] sg (rg b) (zpm I nx r lot fd) L Q = Q (some (.int (if (tfi T k r i).1 = true then nI 1 else nI 0))) sg (rg b) (zpm I (pup nx k (tfi T k r i).2) r lot fd) L := by
  have e0 : zpm I nx r lot fd 89 = I 89 := zpm_r (by decide) (by decide)
  obtain ⟨h0, h1, h2, h3, h4, h5, h6⟩ := hT
  have h : ∀ f left i l3, left < f → left ≤ 30 → i < (tln T k).val → zq d mX11_finds Q 10 [some (.ref 87), some (.int (nI k)), some (.int (nI left)), l3] [] sg (rg b) (zpm I (pup nx k i) r lot fd) L = Q (some (.int (if (twk T k r f left i).1 = true then nI 1 else nI 0))) sg (rg b) (zpm I (pup nx k (twk T k r f left i).2) r lot fd) L := by
    intro f
    induction f with
    | zero => intro left i l3 hf; omega
    | succ f ih =>
      intro left i l3 hf h30 hl
      have e0 : zpm I (pup nx k i) r lot fd 89 = I 89 := zpm_r (by decide) (by decide)
      have hb := (hw.2 k hk).2 i hl
      have hd := hw.1 _ hb
      have hn := tnx_lt (T := T) (k := k) (i := i) (by omega)
      rw [eX11_finds_10]
      rw [twk_s]
      have hne : ¬ nI (tln T k) = 0 := nI_ne0 (by omega) (by omega)
      by_cases c : left < (thd T (thb T k i)).val
      · rw [if_pos c]
        simp (disch := omega) only [bX11_finds, zZ, e0, h6, h3, zpm_94, pup_s, if_neg, Bool.false_eq_true]
      · rw [if_neg c]
        by_cases c2 : (thb T k i).val = r
        · rw [if_pos c2]
          rw [c2] at c
          simp (disch := omega) only [bX11_finds, zZ, e0, h5, h6, h3, zpm_94, pup_s, if_neg, if_pos, pk_sub, pk_rem, tnx_m, zpm_u94, pup_2, c2, zpm_13, hne]
        · rw [if_neg c2]
          simp (disch := omega) only [bX11_finds, zZ, e0, h5, h6, h3, zpm_94, pup_s, if_neg, if_pos, pk_sub, pk_rem, tnx_m, zpm_u94, pup_2, c2, zpm_13, ih, hne]
  subst hi
  simp (disch := omega) only [nX11_finds, bX11_finds, zZ, e0, h4]
  have := h ((tmn T k).val + 1) (tmn T k).val (nx k) none (by omega) (by omega) hl
  rw [pup_id] at this
  exact this
theorem b_or4 : ∀ q, q < 4 → ∀ m, m < 2 ^ q → nI m ||| (nI 1 <<< (nI q &&& 31)) = nI (m + 2 ^ q) := by decide +kernel
theorem s_plays (hT : zTo T (I 89)) (hw : zTw T) (hr : r < (tpn T).val) (hn : tnk T nx) (hh : I 87 16 = nI how) (hh2 : how < 3) : zW (d + 3) mX11_plays [.ref 87] sg (rg b) (zpm I nx r lot fd) L Q = Q (some (.int (nI (cnt (tpw T how nx r lot).2.2.2 4)))) sg (rg b) (zpm I (tpw T how nx r lot).1 (tpw T how nx r lot).2.1 (tpw T how nx r lot).2.2.1 (nI (tpw T how nx r lot).2.2.2)) L := by
  have h : ∀ k, k ≤ (tsn T).val → zq (d + 2) mX11_plays Q 9 [some (.ref 87), some (.int (nI (cnt (tpl T how nx r lot k).2.2.2 k))), some (.int (nI k))] [] sg (rg b) (zpm I (tpl T how nx r lot k).1 (tpl T how nx r lot k).2.1 (tpl T how nx r lot k).2.2.1 (nI (tpl T how nx r lot k).2.2.2)) L = Q (some (.int (nI (cnt (tpw T how nx r lot).2.2.2 4)))) sg (rg b) (zpm I (tpw T how nx r lot).1 (tpw T how nx r lot).2.1 (tpw T how nx r lot).2.2.1 (nI (tpw T how nx r lot).2.2.2)) L := by
    refine z_down _ ?_ ?_
    · rw [eX11_plays_9]
      have h1 := tpl_ok (law := how) (lot := lot) hr hn _ (Nat.le_refl (tsn T).val)
      have e0 : ∀ nx r lot fd, zpm I nx r lot fd 89 = I 89 := fun _ _ _ _ => zpm_r (by decide) (by decide)
      simp (disch := omega) only [bX11_plays, zZ, e0, hT.2.1, if_pos]
      rw [← cnt_top h1.2.2 (show (tsn T).val ≤ 4 by omega)]
      rfl
    · intro k hk ih
      rw [eX11_plays_9]
      have e0 : ∀ nx r lot fd, zpm I nx r lot fd 89 = I 89 := fun _ _ _ _ => zpm_r (by decide) (by decide)
      obtain ⟨h1, h2, h3⟩ := tpl_ok (law := how) (lot := lot) hr hn k (by omega)
      simp (disch := omega) only [bX11_plays, zZ, e0, hT.2.1, if_neg, s_finds hT hw hk h1 rfl (h2 k hk)]
      rw [tpl_s] at ih
      have h16 : (tpl T how nx r lot k).2.2.2 < 16 := Nat.lt_of_lt_of_le h3 (show 2 ^ k ≤ 2 ^ 4 from Nat.pow_le_pow_right (by decide) (by omega))
      by_cases c : (tfi T k (tpl T how nx r lot k).2.1 ((tpl T how nx r lot k).1 k)).1 = true
      · rw [if_pos c] at ih
        simp (disch := omega) only [cnt_s, cnt_add, bit_top] at ih
        simp (disch := omega) only [c, zZ, if_true, bX11_plays, zpm_15, zpm_u15, s_hides hT h1 hh hh2, b_or4, if_neg]
        exact ih
      · rw [if_neg c] at ih
        simp (disch := omega) only [cnt_s, bit_lo, Nat.add_zero] at ih
        simp (disch := omega) only [c, zZ, if_false, bX11_plays, Bool.false_eq_true]
        exact ih
  simp (disch := omega) only [nX11_plays, bX11_plays, zZ, zpm_u15]
  exact h 0 (Nat.zero_le _)
end S2
