/-! THE CLASS: looks, a week, where it lies, what could be -/
theorem zrv_p {T : zT} {r : Nat} (h : 0 < (tpn T).val) : zrv T r = nI r := by unfold zrv; rw [if_neg (by omega)]
section S
variable {d : Nat} {Q : zPo} {σ : zSh} {ρ : zRf} {I : zIm} {L : zLm} {b x : Bool} {T : zT} {S : zU} {l : Int32}
theorem zSk_cs {s : Nat} (hS : zSk T S l s I) (h : 0 < (tpn T).val) : I = zcs I s (srg S) (swk S) l (snx S) (shd S) := zcs_of (by rw [← zrv_p h]; exact hS.1.1) hS.1.2.1 hS.1.2.2.1 hS.2.1
theorem c_looks {k p : Int32} (hT : zTc T b I) (hS : zSk T S l 0 I) (hr : 0 < (tpn T).val → srg S < (tpn T).val) : zW (d + 4) mX10_looks [.ref 0, .int k, .int p] sg (rg b) I L Q =
    if (0 ≤ k.toInt ∧ k.toInt < ((tsn T).val : Int)) ∧ (0 ≤ p.toInt ∧ p.toInt < ((tpn T).val : Int)) then (if p = nI (srg S) then Q (some (.int (nI (thi T (tlw T) (srg S) l).1))) sg (rg b) (zcs I 0 (thi T (tlw T) (srg S) l).1 (swk S) (thi T (tlw T) (srg S) l).2 (snx S) (pup (shd S) k.toInt.toNat (shd S k.toInt.toNat + nI 1))) L
      else Q (some (.int (-9))) sg (rg b) I L) else Q (some (.int (-1))) sg (rg b) I L := by
  have hT0 := hT
  obtain ⟨⟨h0, h1, h2, h3, h4⟩, h5, h6, h7⟩ := hT
  by_cases hk : 0 ≤ k.toInt ∧ k.toInt < ((tsn T).val : Int)
  · obtain ⟨j, hj, rfl⟩ := v_of (by omega) hk
    by_cases hp : 0 ≤ p.toInt ∧ p.toInt < ((tpn T).val : Int)
    · rw [if_pos ⟨hk, hp⟩]
      obtain ⟨q, hq, rfl⟩ := v_of (by omega) hp
      have hr' := hr (by omega)
      have hI := zSk_cs hS (by omega)
      have g0 : I (sc 0 0) 0 = nI (srg S) := by rw [← zrv_p (T := T) (r := srg S) (by omega)]; exact hS.1.1
      by_cases c : q = srg S
      · have hf : ∀ Q, zW (d + 3) mX7_foundBy [.ref (sc 0 0), .int (nI j), .ref (tc b 0), .int (nI (tlw T))] sg (rg b) I L Q = Q none sg (rg b) (zcs I 0 (thi T (tlw T) (srg S) l).1 (swk S) (thi T (tlw T) (srg S) l).2 (snx S) (pup (shd S) j (shd S j + nI 1))) L := fun Q => by
          have := k_foundBy (d := d) (Q := Q) (L := L) (b := b) (s := 0) (w := swk S) (l := l) (n := snx S) (h := shd S) hT0 hj hr' (tlw T).isLt
          rw [← hI] at this
          exact this
        simp (disch := omega) only [nX10_looks, bX10_looks, zZ, k_isSeeker h1, k_isPlace h0, g0, h2, c, hf, zcs_0, nI_toInt, Int.toNat_natCast, if_pos, if_neg]
      · simp (disch := omega) only [nX10_looks, bX10_looks, zZ, k_isSeeker h1, k_isPlace h0, g0, c, if_pos, if_neg]
        done
    · rw [if_neg (fun q => hp q.2)]
      simp (disch := omega) only [nX10_looks, bX10_looks, zZ, k_isSeeker h1, k_isPlace h0, zV3, if_pos, if_neg, ite_self]
  · rw [if_neg (fun q => hk q.1)]
    simp (disch := omega) only [nX10_looks, bX10_looks, zZ, k_isSeeker h1, k_isPlace h0, zV3, if_pos, if_neg, ite_self]
theorem c_week (hT : zTc T b I) (hS : zSk T S l 0 I) (hSw : zSw T S) : zW (d + 5) mX10_week [.ref 0] sg (rg b) I L Q =
    if (swk S).val = 99 ∨ (tpn T).val = 0 then Q (some (.int (-2))) sg (rg b) I L else Q (some (.int (nI (cnt (tpw T (tlw T) (snx S) (srg S) l).2.2.2 4)))) sg (rg b) (zcs I 0 (tpw T (tlw T) (snx S) (srg S) l).2.1 ((swk S).val + 1) (tpw T (tlw T) (snx S) (srg S) l).2.2.1 (tpw T (tlw T) (snx S) (srg S) l).1 (hdu (shd S) (tpw T (tlw T) (snx S) (srg S) l).2.2.2 (tsn T))) L := by
  have hT0 := hT
  obtain ⟨⟨h0, h1, h2, h3, h4⟩, h5, h6, h7⟩ := hT
  have g1 := hS.1.2.1
  by_cases c : (swk S).val = 99
  · rw [if_pos (Or.inl c)]
    simp (disch := omega) only [nX10_week, bX10_week, zZ, g1, if_pos]
  · by_cases c2 : (tpn T).val = 0
    · rw [if_pos (Or.inr c2)]
      simp (disch := omega) only [nX10_week, bX10_week, zZ, g1, h0, if_pos, if_neg]
    · rw [if_neg (by omega)]
      have hr' := hSw.1 (by omega)
      have hI := zSk_cs hS (by omega)
      have hm := tpw_16 (law := (tlw T).val) (lot := l) hr' hSw.2.1
      have hf : ∀ Q, zW (d + 4) mX7_passWeek [.ref (sc 0 0), .ref (tc b 0), .int (nI (tlw T))] sg (rg b) I L Q = Q (some (.int (nI (tpw T (tlw T) (snx S) (srg S) l).2.2.2))) sg (rg b) (zcs I 0 (tpw T (tlw T) (snx S) (srg S) l).2.1 ((swk S).val + 1) (tpw T (tlw T) (snx S) (srg S) l).2.2.1 (tpw T (tlw T) (snx S) (srg S) l).1 (hdu (shd S) (tpw T (tlw T) (snx S) (srg S) l).2.2.2 (tsn T))) L := fun Q => by
        have := k_passWeek (d := d) (Q := Q) (L := L) (b := b) (s := 0) (w := swk S) (l := l) (n := snx S) (h := shd S) hT0 hr' hSw.2.1 (tlw T).isLt
        rw [← hI] at this
        exact this
      have e4 : cnt (tpw T (tlw T) (snx S) (srg S) l).2.2.2 8 = cnt (tpw T (tlw T) (snx S) (srg S) l).2.2.2 4 := cnt_top (show _ < 2 ^ 4 from hm) (by decide)
      simp (disch := omega) only [nX10_week, bX10_week, zZ, g1, h0, h2, hf, k_bits, e4, if_pos, if_neg]
/-- the law matters no more than the lot as long as nobody finds it -/
theorem tpl_0 {law : Nat} {nx : Nat → Nat} {r : Nat} {lot : Int32} : ∀ k, (tpl T law nx r lot k = tpl T 0 nx r lot k ∧ (tpl T 0 nx r lot k).2.2.2 = 0) ∨ ((tpl T law nx r lot k).2.2.2 ≠ 0 ∧ (tpl T 0 nx r lot k).2.2.2 ≠ 0)
  | 0 => Or.inl ⟨rfl, rfl⟩
  | k + 1 => by
    have hp : 0 < 2 ^ k := Nat.pow_pos (by decide)
    rcases tpl_0 (law := law) (nx := nx) (r := r) (lot := lot) k with ⟨h1, h2⟩ | ⟨h1, h2⟩
    · rw [tpl_s, tpl_s, h1]
      by_cases c : (tfi T k (tpl T 0 nx r lot k).2.1 ((tpl T 0 nx r lot k).1 k)).1 = true
      · rw [if_pos c, if_pos c]
        exact Or.inr ⟨by show _ + 2 ^ k ≠ 0; omega, by show _ + 2 ^ k ≠ 0; omega⟩
      · rw [if_neg c, if_neg c]; exact Or.inl ⟨rfl, h2⟩
    · refine Or.inr ⟨?_, ?_⟩
      · rw [tpl_s]; split
        · show _ + 2 ^ k ≠ 0; omega
        · exact h1
      · rw [tpl_s]; split
        · show _ + 2 ^ k ≠ 0; omega
        · exact h2
theorem tli_0 {law : Nat} : ∀ f w nx r lot, tli T law f w nx r lot = tli T 0 f w nx r lot
  | 0, _, _, _, _ => rfl
  | f + 1, w, nx, r, lot => by
    rw [tli_s, tli_s]
    rcases tpl_0 (T := T) (law := law) (nx := nx) (r := r) (lot := lot) (tsn T).val with ⟨h1, h2⟩ | ⟨h1, h2⟩
    · have e : tpw T law nx r lot = tpw T 0 nx r lot := h1
      rw [e, tli_0 f]
    · rw [if_neg (show ¬ (tpw T law nx r lot).2.2.2 = 0 from h1), if_neg (show ¬ (tpw T 0 nx r lot).2.2.2 = 0 from h2)]
theorem k_lying {p : Nat} (hT : zTc T b I) (hS : zSk T S l 0 I) (hSw : zSw T S) (hp : p < (tpn T).val)
    (hQ : ∀ I', kc I I' → Q (some (.int (zfn (tli T 0 50 1 (snx S) p l)))) sg (rg b) I' L) : zW (d + 5) mX10_weeksLying [.ref 0, .int (nI p)] sg (rg b) I L Q := by
  have hpos : 0 < (tpn T).val := by omega
  have h3 := hS.1.2.2.2
  simp (disch := omega) only [nX10_weeksLying, bX10_weeksLying, zZ]
  refine k_becomeAs (s := 1) (s' := 0) (by decide) (by decide) (by decide) h3 (by omega) (fun I1 hb hb2 => ?_)
  have hk1 : kc I I1 := fun a ha => hb.1 a (fun c hc q => ha (q ▸ sc1_r c))
  have hI1 : I1 = zcs I1 1 (srg S) (swk S) l (snx S) (shd S) := by
    refine zcs_of ?_ ?_ ?_ (fun k hk => ?_)
    · rw [hb.2.1 0 (by decide), hS.1.1, zrv_p hpos]
    · rw [hb.2.1 1 (by decide), hS.1.2.1]
    · rw [hb.2.1 2 (by decide), hS.1.2.2.1]
    · rw [(hb.2.2 k hk).1, (hb.2.2 k hk).2]; exact hS.2.1 k hk
  have hT1 := zTc_k hT hk1
  have e2 : ∀ r w l n h, zcs I1 1 r w l n h (tc b 0) 2 = nI (tlw T) := fun _ _ _ _ _ => by rw [zcs_t]; exact hT1.1.2.2.1
  have hl : ∀ f wk n r l w h, wk + f = 51 → 1 ≤ wk → r < (tpn T).val → tnk T n → (∀ I', kc I I' → Q (some (.int (zfn (tli T (tlw T) f wk n r l)))) sg (rg b) I' L) → zq (d + 4) mX10_weeksLying Q 21 [some (.ref 0), some (.int (nI p)), some (.int (nI wk))] [] sg (rg b) (zcs I1 1 r w l n h) L := by
    intro f
    induction f with
    | zero =>
      intro wk n r l w h hw h1 hr hn hQ
      rw [eX10_weeksLying_21]
      simp (disch := omega) only [bX10_weeksLying, zZ, if_pos]
      exact hQ _ (kc_t hk1 kc_z)
    | succ f ih =>
      intro wk n r l w h hw h1 hr hn hQ
      have hm := tpw_16 (law := (tlw T).val) (lot := l) hr hn
      rw [tli_s] at hQ
      rw [eX10_weeksLying_21]
      by_cases c : (tpw T (tlw T) n r l).2.2.2 = 0
      · rw [if_pos c] at hQ
        simp (disch := omega) only [bX10_weeksLying, zZ, e2, k_passWeek hT1 hr hn (tlw T).isLt, c, if_neg, if_pos]
        obtain ⟨o1, o2, o3⟩ := tpw_ok (law := (tlw T).val) (lot := l) hr hn
        exact ih (wk + 1) _ _ _ _ _ (by omega) (by omega) o1 o2 hQ
      · rw [if_neg c] at hQ
        simp (disch := omega) only [bX10_weeksLying, zZ, e2, k_passWeek hT1 hr hn (tlw T).isLt, c, if_neg, if_pos]
        exact hQ _ (kc_t hk1 kc_z)
  have hfin := hl 50 1 (snx S) p l (swk S) (shd S) rfl (by decide) hp hSw.2.1 (fun I' hI' => by rw [tli_0]; exact hQ I' hI')
  rw [hI1]
  simp (disch := omega) only [bX10_weeksLying, zZ, zcs_u0]
  exact hfin
theorem c_lies {p : Int32} (hT : zTc T b I) (hS : zSk T S l 0 I) (hSw : zSw T S) (hQ : ∀ I', kc I I' → Q (some (.int (r_lies T (snx S) l p))) sg (rg b) I' L) : zW (d + 6) mX10_lies [.ref 0, .int p] sg (rg b) I L Q := by
  have h0 := hT.1.1
  unfold r_lies at hQ
  by_cases hp : 0 ≤ p.toInt ∧ p.toInt < ((tpn T).val : Int)
  · simp only [if_pos hp] at hQ
    obtain ⟨q, hq, rfl⟩ := v_of (by omega) hp
    simp (disch := omega) only [nI_toInt, Int.toNat_natCast] at hQ
    simp (disch := omega) only [nX10_lies, bX10_lies, zZ, k_isPlace h0, if_pos, if_neg]
    refine k_lying hT hS hSw hq (fun I' hI' => ?_)
    simp only [zZ, bX10_lies]
    exact hQ I' hI'
  · simp only [if_neg hp] at hQ
    simp (disch := omega) only [nX10_lies, bX10_lies, zZ, k_isPlace h0, zV3, if_pos, if_neg]
    exact hQ I kc_i
theorem tlo_r {W : Nat → Nat} {p q : Nat} (hW : ∀ q, W q ≤ 51) (h1 : W p = 51) (h2 : (tlo W p).2 < 51) : ∀ n, p < n → tlo W n = (some p, 51)
  | 0, h => absurd h (Nat.not_lt_zero _)
  | n + 1, h => by
    rw [tlo_s]
    by_cases c : p = n
    · subst c; rw [h1, if_pos h2]
    · have ih := tlo_r hW h1 h2 n (by omega) (q := q)
      rw [ih, if_neg (by have := hW n; show ¬ 51 < W n; omega)]
theorem c_longest (hT : zTc T b I) (hS : zSk T S l 0 I) (hSw : zSw T S) (hQ : ∀ I', kc I I' → Q (some (.int (zfn (tlo (tlw51 T (snx S) l) (tpn T)).1))) sg (rg b) I' L) : zW (d + 6) mX10_longest [.ref 0] sg (rg b) I L Q := by
  have hW : ∀ q, tlw51 T (snx S) l q ≤ 51 := fun q => (tlw51_le).2
  have h : ∀ p, p ≤ (tpn T).val → ∀ I' l4, kc I I' → (tlo (tlw51 T (snx S) l) p).2 < 51 → zq (d + 5) mX10_longest Q 7 [some (.ref 0), some (.int (zfn (tlo (tlw51 T (snx S) l) p).1)), some (.int (nI (tlo (tlw51 T (snx S) l) p).2)), some (.int (nI p)), l4] [] sg (rg b) I' L := by
    refine z_down _ (fun I' l4 hI' h51 => ?_) (fun p hp ih I' l4 hI' h51 => ?_)
    · have h0 := (zTc_k hT hI').1.1
      rw [eX10_longest_7]
      simp (disch := omega) only [bX10_longest, zZ, h0, if_pos]
      exact hQ I' hI'
    · have h0 := (zTc_k hT hI').1.1
      rw [eX10_longest_7]
      simp (disch := omega) only [bX10_longest, zZ, h0, if_neg]
      refine k_lying (zTc_k hT hI') (zSk_k hS hI') hSw hp (fun I2 hI2 => ?_)
      have hI3 := kc_t hI' hI2
      simp only [zZ, bX10_longest]
      rw [tlo_s] at ih
      cases e : tli T 0 50 1 (snx S) p l with
      | none =>
        have e51 : tlw51 T (snx S) l p = 51 := by unfold tlw51; rw [e]; rfl
        have hr := tlo_r (q := 0) hW e51 h51 (tpn T).val hp
        rw [hr] at hQ
        simp only [zfn_n, zZ]
        exact hQ I2 hI3
      | some w =>
        have ew : tlw51 T (snx S) l p = w := by unfold tlw51; rw [e]; rfl
        have hw2 := tli_le _ _ _ _ _ _ e
        rw [ew] at ih
        by_cases c : (tlo (tlw51 T (snx S) l) p).2 < w
        · rw [if_pos c] at ih
          simp (disch := omega) only [zfn_s, nI_m9, zZ, if_neg, bX10_longest]
          exact ih _ _ hI3 (by show w < 51; omega)
        · rw [if_neg c] at ih
          simp (disch := omega) only [zfn_s, nI_m9, zZ, if_pos, bX10_longest]
          exact ih _ _ hI3 h51
  simp (disch := omega) only [nX10_longest, bX10_longest, zZ]
  exact h 0 (Nat.zero_le _) I none kc_i (by show 0 < 51; decide)
/-- what was seen of a week -/
theorem tk1_f {fd w i : Nat} (h : tk1 S fd w i = false) : ∀ n, i ≤ n → tk1 S fd w n = false
  | 0, hn => by rw [show i = 0 by omega] at h; exact h
  | n + 1, hn => by
    by_cases e : i = n + 1
    · rw [← e]; exact h
    · rw [tk1_s, tk1_f h n (by omega)]; rfl
theorem tbg_f {p w : Nat} (h : tbg T S p w = false) : ∀ n, w ≤ n → tbg T S p n = false
  | 0, hn => by rw [show w = 0 by omega] at h; exact h
  | n + 1, hn => by
    by_cases e : w = n + 1
    · rw [← e]; exact h
    · rw [tbg_s, tbg_f h n (by omega)]; rfl
theorem k_saw {w fd : Nat} (hS : zSk T S l 0 I) (hfd : fd < 16) (hw : w < 100) : zW (d + 1) mX7_sawNoOther [.ref (sc 0 0), .int (nI w), .int (nI fd)] sg (rg b) I L Q = Q (some (.int (bI (tk1 S fd w (ssn S))))) sg (rg b) I L := by
  obtain ⟨⟨g0, g1, g2, g3⟩, g4, g5⟩ := hS
  have h : ∀ i, i ≤ (ssn S).val → tk1 S fd w i = true → zq d mX7_sawNoOther Q 2 [some (.ref (sc 0 0)), some (.int (nI w)), some (.int (nI fd)), some (.int (nI i))] [] sg (rg b) I L = Q (some (.int (bI (tk1 S fd w (ssn S))))) sg (rg b) I L := by
    refine z_down _ (fun ht => ?_) (fun i hi ih ht => ?_)
    · rw [ht, eX7_sawNoOther_2]
      simp (disch := omega) only [bX7_sawNoOther, zZ, g3, if_pos]
      rfl
    · obtain ⟨f1, f2, f3⟩ := g5 i hi
      rw [tk1_s, ht, Bool.true_and] at ih
      rw [eX7_sawNoOther_2]
      have hq := (sss S i).isLt
      by_cases c : (sse S i).val = w
      · by_cases c2 : fd / 2 ^ (sss S i).val % 2 = (ssf S i).val
        · have ih' := ih (by simp [c2])
          simp (disch := omega) only [bX7_sawNoOther, zZ, g3, f1, f2, f3, b_tst, c, c2, if_neg, if_pos]
          exact ih'
        · have hf : tk1 S fd w (i + 1) = false := by rw [tk1_s, ht, decide_eq_true c, decide_eq_false c2]; rfl
          rw [tk1_f hf _ hi]
          simp (disch := omega) only [bX7_sawNoOther, zZ, g3, f1, f2, f3, b_tst, c, c2, if_neg, if_pos]
          rfl
      · have ih' := ih (by rw [decide_eq_false c]; rfl)
        simp (disch := omega) only [bX7_sawNoOther, zZ, g3, f1, c, if_neg]
        exact ih'
  simp (disch := omega) only [nX7_sawNoOther, bX7_sawNoOther, zZ]
  exact h 0 (Nat.zero_le _) rfl
theorem k_began {p : Nat} (hT : zTc T b I) (hw : zTw T) (hS : zSk T S l 0 I) (hp : p < (tpn T).val)
    (hQ : ∀ I', kc I I' → (tbg T S p (swk S) = true → I' (sc 1 0) 0 = nI (tit T (tlc T) (fun _ => 0) p 0 (swk S)).2.1) → Q (some (.int (bI (tbg T S p (swk S))))) sg (rg b) I' L) : zW (d + 5) mX10_canHaveBegunAt [.ref 0, .int (nI p)] sg (rg b) I L Q := by
  have h2 := hT.1.2.2.1
  have hn0 : tnk T (fun _ => 0) := fun k hk => (hw.2 k hk).1
  have hl3 : tlc T < 3 := by unfold tlc; split <;> decide
  have hloop : ∀ I1 l1, kc I I1 → ∀ w, w ≤ (swk S).val → tbg T S p w = true → ∀ h wk, zq (d + 4) mX10_canHaveBegunAt Q 33 [some (.ref 0), some (.int (nI p)), some (.int (nI (tlc T))), some (.int (nI w))] [] sg (rg b) (zcs I1 1 (tit T (tlc T) (fun _ => 0) p l1 w).2.1 wk (tit T (tlc T) (fun _ => 0) p l1 w).2.2.1 (tit T (tlc T) (fun _ => 0) p l1 w).1 h) L := by
    intro I1 l1 hk1
    have hT1 := zTc_k hT hk1
    have e1 : ∀ r w l n h, zcs I1 1 r w l n h (sc 0 0) 1 = nI (swk S) := fun r w l n h => by rw [zcs_y (by decide) (by decide) (by decide)]; exact (zSk_k hS hk1).1.2.1
    refine z_down _ (fun hb h wk => ?_) (fun w hw2 ih hb h wk => ?_)
    · rw [eX10_canHaveBegunAt_33]
      simp (disch := omega) only [bX10_canHaveBegunAt, zZ, e1, if_pos]
      have := hQ (zcs I1 1 (tit T (tlc T) (fun _ => 0) p l1 (swk S)).2.1 wk (tit T (tlc T) (fun _ => 0) p l1 (swk S)).2.2.1 (tit T (tlc T) (fun _ => 0) p l1 (swk S)).1 h) (kc_t hk1 kc_z) (fun _ => by rw [zcs_0, (tit_li l1 0 tlc_2 _).2.1])
      rw [hb] at this
      exact this
    · obtain ⟨o1, o2, o3⟩ := tit_ok (T := T) (law := tlc T) (nx := fun _ => 0) (r := p) (lot := l1) hp hn0 w
      obtain ⟨q1, q2, q3⟩ := tit_ok (T := T) (law := tlc T) (nx := fun _ => 0) (r := p) (lot := l1) hp hn0 (w + 1)
      have hl := (tit_li (T := T) (law := tlc T) (nx := fun _ => 0) (r := p) l1 0 tlc_2 (w + 1)).2.2
      rw [tbg_s, hb, Bool.true_and, ← hl] at ih
      rw [tit_s] at ih q3 hl
      rw [eX10_canHaveBegunAt_33]
      have hS1 : ∀ r w' l' n h, zSk T S l 0 (zcs I1 1 r w' l' n h) := fun r w' l' n h => zSk_k hS (kc_t hk1 kc_z)
      simp (disch := omega) only [bX10_canHaveBegunAt, zZ, e1, if_neg, k_passWeek hT1 o1 o2 hl3, k_saw (hS1 _ _ _ _ _) q3]
      by_cases c : tk1 S (tpw T (tlc T) (tit T (tlc T) (fun _ => 0) p l1 w).1 (tit T (tlc T) (fun _ => 0) p l1 w).2.1 (tit T (tlc T) (fun _ => 0) p l1 w).2.2.1).2.2.2 w (ssn S) = true
      · simp (disch := omega) only [c, bI_t, zZ, if_neg]
        exact ih c _ _
      · have c' : tk1 S (tpw T (tlc T) (tit T (tlc T) (fun _ => 0) p l1 w).1 (tit T (tlc T) (fun _ => 0) p l1 w).2.1 (tit T (tlc T) (fun _ => 0) p l1 w).2.2.1).2.2.2 w (ssn S) = false := Bool.not_eq_true _ ▸ c
        have hf : tbg T S p (w + 1) = false := by rw [tbg_s, hb, Bool.true_and, ← hl]; exact c'
        simp (disch := omega) only [c', bI_f, zZ, if_neg]
        have hq2 : ∀ I', kc I I' → Q (some (.int (nI 0))) sg (rg b) I' L := fun I' hI' => by
          have := hQ I' hI' (fun q => absurd (q.symm.trans (tbg_f hf _ hw2)) (by decide))
          rw [tbg_f hf _ hw2] at this
          exact this
        exact hq2 _ (kc_t hk1 kc_z)
  have e : (if (tlw T).val = 2 then 0 else (tlw T).val) = tlc T := by
    have := (tlw T).isLt
    unfold tlc
    by_cases c : (tlw T).val = 2
    · rw [if_pos c, if_neg (by omega)]
    · rw [if_neg c]
      by_cases c1 : (tlw T).val = 1
      · rw [if_pos c1]; exact c1
      · rw [if_neg c1]; omega
  have hfin := hloop (zup I (sc 1 0) 3 (nI 0)) (I (sc 1 0) 2) kc_u 0 (Nat.zero_le _) rfl (fun _ => nI 0) 0
  by_cases c : (tlw T).val = 2
  · rw [if_pos c] at e
    simp (disch := omega) only [nX10_canHaveBegunAt, bX10_canHaveBegunAt, zZ, h2, c, k_begin, zcs_u0, if_pos, if_neg]
    rw [← e] at hfin
    exact hfin
  · rw [if_neg c] at e
    simp (disch := omega) only [nX10_canHaveBegunAt, bX10_canHaveBegunAt, zZ, h2, c, k_begin, zcs_u0, if_pos, if_neg]
    rw [← e] at hfin
    exact hfin
theorem i_or0 {x : Int32} : x ||| nI 0 = x := by rw [nI_0]; exact Int32.or_zero
theorem c_could {what : Int32} (hT : zTc T b I) (hw : zTw T) (hS : zSk T S l 0 I) (hQ : if 0 ≤ what.toInt ∧ what.toInt < 2 then (∀ I', kc I I' → Q (some (.int (r_cou T S what (tpn T)))) sg (rg b) I' L) else Q (some (.int (-1))) sg (rg b) I L) : zW (d + 6) mX10_could [.ref 0, .int what] sg (rg b) I L Q := by
  by_cases hc : 0 ≤ what.toInt ∧ what.toInt < 2
  · rw [if_pos hc] at hQ
    obtain ⟨w, hw3, rfl⟩ := v_of (n := 2) (by omega) (by omega)
    have h : ∀ p, p ≤ (tpn T).val → ∀ I', kc I I' → zq (d + 5) mX10_could Q 15 [some (.ref 0), some (.int (nI w)), some (.int (r_cou T S (nI w) p)), some (.int (nI p))] [] sg (rg b) I' L := by
      refine z_down _ (fun I' hI' => ?_) (fun p hp ih I' hI' => ?_)
      · have h0 := (zTc_k hT hI').1.1
        rw [eX10_could_15]
        simp (disch := omega) only [bX10_could, zZ, h0, if_pos]
        exact hQ I' hI'
      · have h0 := (zTc_k hT hI').1.1
        rw [eX10_could_15]
        simp (disch := omega) only [bX10_could, zZ, h0, if_neg]
        refine k_began (zTc_k hT hI') hw (zSk_k hS hI') hp (fun I2 hI2 hr => ?_)
        have hI3 := kc_t hI' hI2
        rw [r_cou_s] at ih
        by_cases c : tbg T S p (swk S) = true
        · have hr2 := hr c
          rw [if_pos c] at ih
          simp only [c, bI_t]
          have hw2 : w = 0 ∨ w = 1 := by omega
          rcases hw2 with rfl | rfl
          · rw [if_pos rfl] at ih
            simp (disch := omega) only [zZ, bX10_could, if_neg]
            exact ih I2 hI3
          · rw [if_neg (by decide +kernel)] at ih
            simp (disch := omega) only [zZ, bX10_could, if_neg, hr2]
            exact ih I2 hI3
        · rw [if_neg c, i_or0] at ih
          have c' : tbg T S p (swk S) = false := Bool.not_eq_true _ ▸ c
          simp only [c', bI_f]
          simp (disch := omega) only [zZ, bX10_could]
          exact ih I2 hI3
    simp (disch := omega) only [nX10_could, bX10_could, zZ, if_neg, if_pos]
    exact h 0 (Nat.zero_le _) I kc_i
  · rw [if_neg hc] at hQ
    simp (disch := omega) only [nX10_could, bX10_could, zZ, zV3, if_neg, if_pos, ite_self]
    exact hQ
end S
