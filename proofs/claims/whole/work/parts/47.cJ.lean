/-! THE CLASS: two weeks; ODDS -/
theorem rl_s (ns m t : Nat) : rl ns (m + 1) t = (t % ns) :: rl ns m (t + 1) := rfl
theorem rl_ge {ns : Nat} : ∀ m t j, t + m ≤ ns → j ∈ rl ns m t → t ≤ j
  | 0, t, j, _, h => absurd h (by simp [rl])
  | m + 1, t, j, hm, h => by
    rw [rl_s] at h
    rcases List.mem_cons.1 h with e | e
    · rw [e, Nat.mod_eq_of_lt (by omega)]; exact Nat.le_refl _
    · have := rl_ge m (t + 1) j (by omega) e; omega
section S
variable {d : Nat} {Q : zPo} {σ : zSh} {ρ : zRf} {I : zIm} {L : zLm} {b x : Bool} {T : zT} {S : zU}
theorem k_lastWeek {A Y F n : Nat → Nat} {at' share : Nat} (hT : zTc T b I) (hn : tnk T n) (ha : at' < (tpn T).val) (hd : 60 ^ (tsn T).val ∣ share) (hs : share < 2 ^ 62)
    (hQ : ∀ A' Y' F', (∀ p, p < (tpn T).val → A' p = A p + tV T p (rl (tsn T) (tsn T) 0) at' n share) → Q none sg (rg b) (zic I n) (zlc L A' Y' F')) :
    zW (d + 4) mX0_lastWeek [.ref 63, .ref (tc b 0), .int (nI at'), .long (lN share)] sg (rg b) (zic I n) (zlc L A Y F) Q := by
  have e0 : zic I n (tc b 0) 0 = nI (tpn T) := by rw [zic_t]; exact hT.1.1
  have e1 : zic I n (tc b 0) 1 = nI (tsn T) := by rw [zic_t]; exact hT.1.2.1
  have f65 : ∀ {L : zLm} {v : Int64} {Q : zPo}, zW (d + 3) mJ7_fill_d0a16 [.ref 65, .long v] sg (rg b) (zic I n) L Q = Q none sg (rg b) (zic I n) (fil L 65 0 (fun _ => v) 6) := fun {L v Q} => k_fillL (by decide +kernel) (by decide +kernel) (by decide)
  have h2 : ∀ Y F, (∀ p, p < (tpn T).val → Y p = tV T p (rl (tsn T) (tsn T) 0) at' n share) → ∀ p, p ≤ (tpn T).val → zq (d + 3) mX0_lastWeek Q 43 [some (.ref 63), some (.ref (tc b 0)), some (.int (nI at')), some (.long (lN share)), none, some (.int (nI p))] [] sg (rg b) (zic I n) (zlc L (fun q => if q < p then A q + Y q else A q) Y F) := by
    intro Y F hY
    refine z_down _ ?_ (fun p hp ih => ?_)
    · rw [eX0_lastWeek_43]
      simp (disch := omega) only [bX0_lastWeek, zZ, e0, if_pos]
      exact hQ _ _ _ (fun p hp => by rw [if_pos hp, hY p hp])
    · rw [eX0_lastWeek_43]
      have es : pup (fun q => if q < p then A q + Y q else A q) p ((if p < p then A p + Y p else A p) + Y p) = fun q => if q < p + 1 then A q + Y q else A q := by
        funext q; unfold pup
        by_cases c : q = p
        · rw [if_pos c, if_neg (Nat.lt_irrefl p), c, if_pos (Nat.lt_succ_self p)]
        · rw [if_neg c]
          show (if q < p then A q + Y q else A q) = _
          by_cases c2 : q < p
          · rw [if_pos c2, if_pos (by omega)]
          · rw [if_neg c2, if_neg (by omega)]
      simp (disch := omega) only [bX0_lastWeek, zZ, e0, if_neg, zlc_4, zlc_5, lN_add, zlc_u4]
      rw [← es] at ih
      simp (disch := omega) only [if_neg] at ih
      exact ih
  have h1 : ∀ m k, k + m = (tsn T).val → ∀ Y F, (∀ q, 60 ^ m ∣ Y q) → sN Y (tpn T) ≤ share → (∀ p0, sN (fun q => tV T p0 (rl (tsn T) m k) q n (Y q)) (tpn T) = tV T p0 (rl (tsn T) (tsn T) 0) at' n share) →
      zq (d + 3) mX0_lastWeek Q 18 [some (.ref 63), some (.ref (tc b 0)), some (.int (nI at')), some (.long (lN share)), none, some (.int (nI k))] [] sg (rg b) (zic I n) (zlc L A Y F) := by
    intro m
    induction m with
    | zero =>
      intro k hk Y F hY hs2 hV
      have hY2 : ∀ p, p < (tpn T).val → Y p = tV T p (rl (tsn T) (tsn T) 0) at' n share := fun p hp => by
        rw [← hV p]
        have : sN (fun q => tV T p (rl (tsn T) 0 k) q n (Y q)) (tpn T) = tV T p (rl (tsn T) 0 k) p n (Y p) := sN_1 (f := fun q => tV T p (rl (tsn T) 0 k) q n (Y q)) hp (fun i _ hne => if_neg hne)
        rw [this]; exact (if_pos rfl).symm
      have h20 := h2 Y F hY2 0 (Nat.zero_le _)
      rw [show (fun q => if q < 0 then A q + Y q else A q) = A from funext fun q => if_neg (Nat.not_lt_zero q)] at h20
      rw [eX0_lastWeek_18]
      simp (disch := omega) only [bX0_lastWeek, zZ, e1, if_pos]
      exact h20
    | succ m ih =>
      intro k hk Y F hY hs2 hV
      have hkt : k < (tsn T).val := by omega
      have hl : (rl (tsn T) m (k + 1)).length = m := rl_len _ _ _
      have hY' : ∀ q, 60 ^ ((rl (tsn T) m (k + 1)).length + 1) ∣ Y q := by rw [hl]; exact hY
      have hnin : k ∉ rl (tsn T) m (k + 1) := fun q => by have := rl_ge _ _ _ (by omega) q; omega
      rw [eX0_lastWeek_18]
      simp (disch := omega) only [bX0_lastWeek, zZ, e1, if_neg]
      refine k_searchAll hT hkt (hn k hkt) (fun q hq => Nat.lt_of_le_of_lt (Nat.le_trans (sN_le _ hq) hs2) hs) ?_
      simp (disch := omega) only [bX0_lastWeek, zZ]
      refine ih (k + 1) (by omega) _ _ (fun q => ?_) (Nat.le_trans ysr_t hs2) (fun p0 => ?_)
      · have := ysr_d (T := T) (n := n) (k := k) (F := F) hY' q
        rw [hl] at this; exact this
      · rw [ysr_g hnin hY', ← hV p0, rl_s, Nat.mod_eq_of_lt hkt]
  simp (disch := omega) only [nX0_lastWeek, bX0_lastWeek, zZ, f65]
  rw [show (0 : Int64) = 0 from rfl, zlc_f5]
  simp (disch := omega) only [bX0_lastWeek, zZ, zlc_u5]
  refine h1 (tsn T).val 0 (by omega) _ _ (fun q => ?_) ?_ (fun p0 => ?_)
  · unfold pup; split
    · exact hd
    · exact Nat.dvd_zero _
  · rw [sN_1 ha (fun i _ hne => pup_n hne), pup_s]; exact Nat.le_refl _
  · rw [sN_1 (f := fun q => tV T p0 (rl (tsn T) (tsn T) 0) q n (pup (fun _ => 0) at' share q)) ha (fun i _ hne => by rw [pup_n hne, tV_0]), pup_s]
theorem k_firstWeek (hT : zTc T b I) : ∀ m k, k + m = (tsn T).val → ∀ d at' share A Y F n Q, tnk T n → at' < (tpn T).val → 60 ^ (m + (tsn T).val) ∣ share → share < 2 ^ 62 →
    (∀ A' Y' F', (∀ p, p < (tpn T).val → A' p = A p + tV T p (rl (tsn T) (m + (tsn T).val) k) at' n share) → Q none sg (rg b) (zic I n) (zlc L A' Y' F')) →
    zW (d + m + 5) mX0_firstWeek [.ref 63, .ref (tc b 0), .int (nI k), .int (nI at'), .long (lN share)] sg (rg b) (zic I n) (zlc L A Y F) Q
  | 0, k, hk, d, at', share, A, Y, F, n, Q, hn, ha, hd, hs, hQ => by
    have e1 : zic I n (tc b 0) 1 = nI (tsn T) := by rw [zic_t]; exact hT.1.2.1
    have hk' : k = (tsn T).val := by omega
    subst hk'
    rw [Nat.zero_add] at hd hQ
    have hp := rl_per (tsn T) (tsn T) 0
    rw [Nat.zero_add] at hp
    rw [hp] at hQ
    simp (disch := omega) only [nX0_firstWeek, bX0_firstWeek, zZ, k_isSeeker e1, if_neg, if_pos]
    refine k_lastWeek hT hn ha hd hs (fun A' Y' F' h => ?_)
    simp (disch := omega) only [bX0_firstWeek, zZ]
    exact hQ _ _ _ h
  | m + 1, k, hk, d, at', share, A, Y, F, n, Q, hn, ha, hd, hs, hQ => by
    have e1 : zic I n (tc b 0) 1 = nI (tsn T) := by rw [zic_t]; exact hT.1.2.1
    have e0 : ∀ n, zic I n (tc b 0) 0 = nI (tpn T) := fun n => by rw [zic_t]; exact hT.1.1
    have e2 : zic I n (tc b 2) at' = nI (tnw T at') := by rw [zic_t]; exact (hT.2.1 at' ha).1
    have hkt : k < (tsn T).val := by omega
    have hnk := hn k hkt
    have h64 := tnw_64 T at'
    have hn1 := tnk_up hn (tfi_lt (r := at') hnk)
    have hc8 := cnt_le (tnw T at') 8
    rw [show m + 1 + (tsn T).val = (m + (tsn T).val) + 1 by omega] at hd hQ
    simp only [rl_s, Nat.mod_eq_of_lt hkt, tV_c] at hQ
    rw [show d + (m + 1) + 5 = (d + m + 5) + 1 by omega]
    have hback : ∀ A' Y' F', (∀ p, p < (tpn T).val → A' p = A p + (if (tfi T k at' (n k)).1 = true ∧ tnw T at' ≠ 0 then sB (tnw T at') (fun q => tV T p (rl (tsn T) (m + (tsn T).val) (k + 1)) q (pup n k (tfi T k at' (n k)).2) (share / cnt (tnw T at') 8)) (tpn T) else tV T p (rl (tsn T) (m + (tsn T).val) (k + 1)) at' (pup n k (tfi T k at' (n k)).2) share)) →
        Q none sg (rg b) (zup (zic I (pup n k (tfi T k at' (n k)).2)) 67 k (nI (n k))) (zlc L A' Y' F') := by
      intro A' Y' F' h
      rw [zic_u (by omega), pup_2, pup_id]
      exact hQ _ _ _ h
    by_cases c : (tfi T k at' (n k)).1 = true ∧ tnw T at' ≠ 0
    · have hp := cnt_pos _ h64 c.2
      have hne : ¬ lN (cnt (tnw T at') 8) = 0 := by rw [lN_0, pk_lEQ (by omega) (by omega)]; omega
      have hdv := dv_div (cnw_60 ha c.2) hp hd
      have hsv : share / cnt (tnw T at') 8 < 2 ^ 62 := Nat.lt_of_le_of_lt (Nat.div_le_self _ _) hs
      simp only [if_pos c] at hback
      have hl : ∀ p, p ≤ (tpn T).val → ∀ A1 Y1 F1, (∀ p0, p0 < (tpn T).val → A1 p0 = A p0 + sB (tnw T at') (fun q => tV T p0 (rl (tsn T) (m + (tsn T).val) (k + 1)) q (pup n k (tfi T k at' (n k)).2) (share / cnt (tnw T at') 8)) p) →
          zq (d + m + 5) mX0_firstWeek Q 91 [some (.ref 63), some (.ref (tc b 0)), some (.int (nI k)), some (.int (nI at')), some (.long (lN share)), none, some (.int (nI (n k))), some (.int (nI (tnw T at'))), some (.int (nI (cnt (tnw T at') 8))), some (.int (nI p))] [] sg (rg b) (zic I (pup n k (tfi T k at' (n k)).2)) (zlc L A1 Y1 F1) := by
        refine z_down _ (fun A1 Y1 F1 h => ?_) (fun p hp2 ih A1 Y1 F1 h => ?_)
        · rw [eX0_firstWeek_91]
          simp (disch := omega) only [bX0_firstWeek, zZ, e0, if_pos]
          exact hback _ _ _ h
        · rw [eX0_firstWeek_91]
          rcases Nat.mod_two_eq_zero_or_one (tnw T at' / 2 ^ p) with e | e
          · simp (disch := omega) only [bX0_firstWeek, zZ, e0, b_tst, e, if_neg, if_pos]
            refine ih _ _ _ (fun p0 h0 => ?_)
            rw [h p0 h0, sB_s, e]; rfl
          · simp (disch := omega) only [bX0_firstWeek, zZ, e0, b_tst, e, if_neg, if_pos, nI_l, hne, pk_lDiv]
            refine k_firstWeek hT m (k + 1) (by omega) d p _ A1 Y1 F1 _ _ hn1 hp2 hdv hsv (fun A2 Y2 F2 h2 => ?_)
            simp (disch := omega) only [bX0_firstWeek, zZ]
            refine ih _ _ _ (fun p0 h0 => ?_)
            rw [h2 p0 h0, h p0 h0, sB_s, e, if_pos rfl, Nat.add_assoc]
      simp (disch := omega) only [nX0_firstWeek, bX0_firstWeek, zZ, k_isSeeker e1, zic_7, zic_u, k_finds (zTc_ic hT) hkt hnk ha, k_stopsAt (zTc_ic hT) hkt hnk ha, e2, c.1, k_bits h64, if_neg, if_pos]
      exact hl 0 (Nat.zero_le _) _ _ _ (fun p0 _ => rfl)
    · simp only [if_neg c] at hback
      have hfin : ∀ l6 l7, l6 = n k → zq (d + m + 5) mX0_firstWeek Q 74 [some (.ref 63), some (.ref (tc b 0)), some (.int (nI k)), some (.int (nI at')), some (.long (lN share)), none, some (.int (nI l6)), some (.int (nI 0)), some (.int (nI 0)), l7] [] sg (rg b) (zic I (pup n k (tfi T k at' (n k)).2)) (zlc L A Y F) := by
        intro l6 l7 h6
        subst h6
        simp (disch := omega) only [bX0_firstWeek, zZ]
        refine k_firstWeek hT m (k + 1) (by omega) d at' _ A Y F _ _ hn1 ha (Nat.dvd_trans ⟨60, Nat.pow_succ ..⟩ hd) hs (fun A2 Y2 F2 h2 => ?_)
        simp (disch := omega) only [bX0_firstWeek, zZ]
        exact hback _ _ _ h2
      have c0 : cnt 0 8 = 0 := rfl
      have hfin' := hfin (n k) none rfl
      simp (disch := omega) only [bX0_firstWeek, zZ] at hfin'
      by_cases c1 : (tfi T k at' (n k)).1 = true
      · have c2 : tnw T at' = 0 := Nat.eq_zero_of_not_pos (fun q => c ⟨c1, by omega⟩)
        rw [nX0_firstWeek]
        simp (disch := omega) only [bX0_firstWeek, zZ, k_isSeeker e1, zic_7, zic_u, k_finds (zTc_ic hT) hkt hnk ha, k_stopsAt (zTc_ic hT) hkt hnk ha, e2, c1, c2, k_bits (show 0 < 64 by decide), c0, if_neg, if_pos]
        exact hfin'
      · rw [nX0_firstWeek]
        simp (disch := omega) only [bX0_firstWeek, zZ, k_isSeeker e1, zic_7, zic_u, k_finds (zTc_ic hT) hkt hnk ha, k_stopsAt (zTc_ic hT) hkt hnk ha, c1, k_bits (show 0 < 64 by decide), c0, if_neg, if_pos, if_false, Bool.false_eq_true]
        exact hfin'
theorem k_goOn {w : Nat} (hT : zTc T b I) {l : Int32} (hS : zSk T S l 0 I) (hSw : zSw T S) (h0 : 0 < (tpn T).val) (hw : w < 3)
    (hQ : ∀ A' Y' F', (∀ p, p < (tpn T).val → A' p = tV T p (rl (tsn T) (w * (tsn T).val) 0) (srg S) (snx S) cW) → Q none sg (rg b) (zic I (snx S)) (zlc L A' Y' F')) :
    zW (d + 10) mX0_goOn [.ref 63, .ref (tc b 0), .ref (sc 0 0), .int (nI w)] sg (rg b) I L Q := by
  obtain ⟨A, Y, F, hL⟩ := zlc_any L
  have hr := hSw.1 h0
  have g0 : I (sc 0 0) 0 = nI (srg S) := by rw [← zrv_p h0]; exact hS.1.1
  have e0 := hT.1.1
  have f64 : ∀ {L : zLm} {v : Int64} {Q : zPo}, zW (d + 9) mJ7_fill_d0a16 [.ref 64, .long v] sg (rg b) I L Q = Q none sg (rg b) I (fil L 64 0 (fun _ => v) 6) := fun {L v Q} => k_fillL (by decide +kernel) (by decide +kernel) (by decide)
  have hcp : (fun a j => if a = 67 then va_cpy (I (sc 0 1)) (I 67) (nI 0).toNatClampNeg (nI 0).toNatClampNeg (nI 4).toNatClampNeg j else I a j) = zic I (snx S) := by
    funext a j; unfold zic va_cpy
    rw [show (nI 0).toNatClampNeg = 0 by decide +kernel, show (nI 4).toNatClampNeg = 4 by decide +kernel]
    by_cases c : a = 67
    · by_cases c2 : j < 4
      · rw [if_pos c, if_pos ⟨Nat.zero_le _, by omega⟩, if_pos ⟨c, c2⟩, Nat.sub_zero, Nat.zero_add]
        exact (hS.2.1 j c2).1
      · rw [if_pos c, if_neg (by omega), if_neg (by omega), c]
    · rw [if_neg c, if_neg (by omega)]
  have i0 : zic I (snx S) (sc 0 0) 0 = nI (srg S) := by rw [zic_s]; exact g0
  have hc60 : ∀ j, j ≤ 8 → 60 ^ j ∣ cW := fun j hj => by rw [cW_60]; exact Nat.pow_dvd_pow 60 hj
  have hc62 : cW < 2 ^ 62 := by decide
  have hcl : (167961600000000 : Int64) = lN cW := rfl
  have s67 : (sg.2 67).1 = 20 ∧ (sg.2 67).2 = 4 ∧ 67 < sg.1 := by decide +kernel
  have s01 : (sg.2 (sc 0 1)).1 = 20 ∧ (sg.2 (sc 0 1)).2 = 4 ∧ sc 0 1 < sg.1 := ⟨by rw [scs (by decide)]; rfl, by rw [scs (by decide)]; rfl, sc_lt⟩
  have hcopy : ∀ {L : zLm}, zq (d + 9) mX0_goOn Q 34 [some (.ref 63), some (.ref (tc b 0)), some (.ref (sc 0 0)), some (.int (nI w))] [] sg (rg b) (zic I (snx S)) L → zq (d + 9) mX0_goOn Q 31 [some (.ref 63), some (.ref (tc b 0)), some (.ref (sc 0 0)), some (.int (nI w))] [.int (nI 4), .int (nI 0), .ref 67, .int (nI 0), .ref (sc 0 1)] sg (rg b) I L := by
    intro L h
    rw [eX0_goOn_31]
    have h' := h
    rw [← hcp] at h'
    have n0 : ¬ nI 0 < 0 := by decide +kernel
    have n4 : ¬ nI 4 < 0 := by decide +kernel
    refine ⟨s01.2.2, s67.2.2, s01.1, s67.1, n0, n0, n4, ?_, ?_, ?_, h'⟩
    · rw [s01.2.1]; decide +kernel
    · rw [s67.2.1]; decide +kernel
    · decide
  rw [hL, nX0_goOn]
  simp (disch := omega) only [eX0_goOn_0, eX0_goOn_1, eX0_goOn_4, eX0_goOn_5, eX0_goOn_8, eX0_goOn_9, eX0_goOn_10, eX0_goOn_13, eX0_goOn_16, eX0_goOn_20, eX0_goOn_21, eX0_goOn_24, eX0_goOn_25, eX0_goOn_26, eX0_goOn_29, eX0_goOn_30, zZ, f64, g0, k_isPlace e0, if_neg, if_pos]
  rw [zlc_f4]
  refine hcopy ?_
  have hw3 : w = 0 ∨ w = 1 ∨ w = 2 := by omega
  rcases hw3 with rfl | rfl | rfl
  · simp (disch := omega) only [bX0_goOn, zZ, i0, hcl, zlc_u4, if_pos]
    refine hQ _ _ _ (fun p hp => ?_)
    rw [show 0 * (tsn T).val = 0 from Nat.zero_mul _]
    show _ = if srg S = p then cW else 0
    unfold pup
    by_cases c : p = srg S
    · rw [if_pos c, if_pos c.symm]
    · rw [if_neg c, if_neg (fun q => c q.symm)]
  · simp (disch := omega) only [bX0_goOn, zZ, i0, hcl, if_neg, if_pos]
    refine k_lastWeek hT hSw.2.1 hr (hc60 _ (by omega)) hc62 (fun A' Y' F' h => ?_)
    simp (disch := omega) only [bX0_goOn, zZ]
    refine hQ _ _ _ (fun p hp => ?_)
    rw [h p hp, Nat.one_mul, Nat.zero_add]
  · simp (disch := omega) only [bX0_goOn, zZ, i0, hcl, if_neg, if_pos]
    have e2 : (tsn T).val + (tsn T).val = 2 * (tsn T).val := by omega
    have hd : d + 9 = (d + 4 - (tsn T).val) + (tsn T).val + 5 := by omega
    rw [hd]
    refine k_firstWeek hT (tsn T).val 0 (by omega) (d + 4 - (tsn T).val) _ _ _ _ _ _ _ hSw.2.1 hr (hc60 _ (by omega)) hc62 (fun A' Y' F' h => ?_)
    rw [← hd]
    simp (disch := omega) only [bX0_goOn, zZ]
    refine hQ _ _ _ (fun p hp => ?_)
    rw [h p hp, Nat.zero_add, e2]
/-- what ODDS may change -/
def ko (I I' : zIm) (L L' : zLm) : Prop := (∀ a, a ≠ 67 → I' a = I a) ∧ ∀ a, a ≠ 64 → a ≠ 65 → a ≠ 66 → L' a = L a
theorem c_odds {v p what : Int32} (hT : zTc T b I) {l : Int32} (hS : zSk T S l 0 I) (hSw : zSw T S)
    (hQ : ∀ I' L', ko I I' L L' → Q (some (.long (r_odds T S v p what))) sg (rg b) I' L') : zW (d + 11) mX10_odds [.ref 0, .int v, .int p, .int what] sg (rg b) I L Q := by
  have h0 := hT.1.1
  unfold r_odds at hQ
  by_cases hv : 0 ≤ v.toInt ∧ v.toInt < 3
  · obtain ⟨w, hw, rfl⟩ := v_of (n := 3) (v := v) (by omega) (by omega)
    by_cases hp : 0 ≤ p.toInt ∧ p.toInt < ((tpn T).val : Int)
    · obtain ⟨j, hj, rfl⟩ := v_of (by omega) hp
      by_cases hh : 0 ≤ what.toInt ∧ what.toInt < 2
      · simp only [if_pos (And.intro hv (And.intro hp hh))] at hQ
        obtain ⟨h, hh2, rfl⟩ := v_of (n := 2) (v := what) (by omega) (by omega)
        simp (disch := omega) only [nI_toInt, Int.toNat_natCast] at hQ
        simp (disch := omega) only [nX10_odds, bX10_odds, zZ, k_isPlace h0, if_neg, if_pos]
        refine k_goOn hT hS hSw (by omega) hw (fun A' Y' F' hA => ?_)
        have hle := tV_le (T := T) (p := j) (rl (tsn T) (w * (tsn T).val) 0) (srg S) (snx S) cW
        have hc62 : cW < 2 ^ 62 := by decide
        have hc0 : 0 < cW := by decide
        have hcl : (167961600000000 : Int64) = lN cW := rfl
        have hA2 := hA j hj
        have hlt : A' j < 2 ^ 62 := by omega
        generalize hb : decide (nI h = nI 0) = bb at hQ
        have hlt2 : ∀ {Q : zPo} {I : zIm} {L : zLm}, zW (d + 10) mX10_leastTerm [.long (lN (A' j)), .long (lN cW), .int (nI h)] sg (rg b) I L Q = Q (some (.long (lN (gpt (A' j) cW bb)))) sg (rg b) I L := fun {Q I L} => by rw [k_leastTerm hlt hc0 hc62, hb]
        simp (disch := omega) only [bX10_odds, zZ, zlc_4, hcl, hlt2]
        rw [hA2]
        exact hQ (zic I (snx S)) (zlc L A' Y' F') ⟨fun a ha => zic_r ha, fun a h4 h5 h6 => zlc_r h4 h5 h6⟩
      · simp only [if_neg (fun q : ((0 ≤ (nI w).toInt ∧ (nI w).toInt < 3) ∧ (0 ≤ (nI j).toInt ∧ (nI j).toInt < ((tpn T).val : Int)) ∧ (0 ≤ what.toInt ∧ what.toInt < 2)) => hh q.2.2)] at hQ
        simp (disch := omega) only [nX10_odds, bX10_odds, zZ, k_isPlace h0, zV3, if_neg, if_pos, ite_self]
        exact hQ _ _ ⟨fun _ _ => rfl, fun _ _ _ _ => rfl⟩
    · simp only [if_neg (fun q : ((0 ≤ (nI w).toInt ∧ (nI w).toInt < 3) ∧ (0 ≤ p.toInt ∧ p.toInt < ((tpn T).val : Int)) ∧ (0 ≤ what.toInt ∧ what.toInt < 2)) => hp q.2.1)] at hQ
      simp (disch := omega) only [nX10_odds, bX10_odds, zZ, k_isPlace h0, zV3, if_neg, if_pos, ite_self]
      exact hQ _ _ ⟨fun _ _ => rfl, fun _ _ _ _ => rfl⟩
  · simp only [if_neg (fun q : ((0 ≤ v.toInt ∧ v.toInt < 3) ∧ (0 ≤ p.toInt ∧ p.toInt < ((tpn T).val : Int)) ∧ (0 ≤ what.toInt ∧ what.toInt < 2)) => hv q.1)] at hQ
    simp (disch := omega) only [nX10_odds, bX10_odds, zZ, k_isPlace h0, zV3, if_neg, if_pos, ite_self]
    exact hQ _ _ ⟨fun _ _ => rfl, fun _ _ _ _ => rfl⟩
end S
