/-! THE CLASS: fractions, weeks, what could be -/
section S
variable {d : Nat} {Q : zPo} {σ : zSh} {ρ : zRf} {I : zIm} {L : zLm} {b x : Bool} {T : zT} {S : zU} {l : Int32}
theorem k_euclid {u v : Int64} {w : Int32} {X : Prop} : ∀ m a c st l10 l11, a < 2 ^ 62 → c < 2 ^ 62 → c < 2 ^ m → st + 2 * m < 200 →
    (∀ st' l10 l11, zq d mX10_leastTerm Q 45 [some (.long u), none, some (.long v), none, some (.int w), some (.long (lN (Nat.gcd a c))), none, some (.long (lN 0)), none, some (.int (nI st')), l10, l11] [] σ ρ I L = X) →
    zq d mX10_leastTerm Q 9 [some (.long u), none, some (.long v), none, some (.int w), some (.long (lN a)), none, some (.long (lN c)), none, some (.int (nI st)), l10, l11] [] σ ρ I L = X
  | 0, a, c, st, l10, l11, ha, hc, hm, hs, hQ => by
    have c0 : c = 0 := by omega
    subst c0
    rw [Nat.gcd_zero_right] at hQ
    rw [eX10_leastTerm_9]
    simp (disch := omega) only [eX10_leastTerm_11, eX10_leastTerm_14, eX10_leastTerm_17, eX10_leastTerm_19, eX10_leastTerm_20, eX10_leastTerm_21, lN_0, lg_0, zZ, if_neg]
    exact hQ st l10 l11
  | m + 1, a, c, st, l10, l11, ha, hc, hm, hs, hQ => by
    rw [eX10_leastTerm_9]
    by_cases c0 : c = 0
    · subst c0
      rw [Nat.gcd_zero_right] at hQ
      simp (disch := omega) only [eX10_leastTerm_11, eX10_leastTerm_14, eX10_leastTerm_17, eX10_leastTerm_19, eX10_leastTerm_20, eX10_leastTerm_21, lN_0, lg_0, zZ, if_neg]
      exact hQ st l10 l11
    · have hne : ¬ lN c = lN 0 := by rw [pk_lEQ (by omega) (by omega)]; exact c0
      have hlt := Nat.mod_lt a (show c > 0 by omega)
      have hg1 : Nat.gcd a c = Nat.gcd c (a % c) := by rw [Nat.gcd_comm c (a % c), ← Nat.gcd_rec c a, Nat.gcd_comm]
      rw [hg1] at hQ
      simp (disch := omega) only [bX10_leastTerm, lN_0, lg_0, hne, zZ, pk_lRem, if_neg]
      rw [eX10_leastTerm_9]
      by_cases c1 : a % c = 0
      · rw [c1, Nat.gcd_zero_right] at hQ
        simp (disch := omega) only [c1, eX10_leastTerm_11, eX10_leastTerm_14, eX10_leastTerm_17, eX10_leastTerm_19, eX10_leastTerm_20, eX10_leastTerm_21, lN_0, lg_0, zZ, if_neg]
        exact hQ _ _ _
      · have hne1 : ¬ lN (a % c) = lN 0 := by rw [pk_lEQ (by omega) (by omega)]; exact c1
        have hlt2 := Nat.mod_lt c (show a % c > 0 by omega)
        have hg2 : Nat.gcd c (a % c) = Nat.gcd (a % c) (c % (a % c)) := by rw [Nat.gcd_comm (a % c) (c % (a % c)), ← Nat.gcd_rec (a % c) c, Nat.gcd_comm]
        have hh : c % (a % c) < 2 ^ m := by
          have h1 := Nat.div_add_mod c (a % c)
          have h2 : 1 ≤ c / (a % c) := (Nat.one_le_div_iff (by omega)).2 (by omega)
          have h3 : a % c * 1 ≤ a % c * (c / (a % c)) := Nat.mul_le_mul_left _ h2
          rw [Nat.pow_succ] at hm
          omega
        rw [hg2] at hQ
        simp (disch := omega) only [bX10_leastTerm, lN_0, lg_0, hne1, zZ, pk_lRem, if_neg]
        exact k_euclid m _ _ _ _ _ (by omega) (by omega) hh (by omega) hQ
theorem k_leastTerm {u v : Nat} {w : Int32} (hu : u < 2 ^ 62) (h0 : 0 < v) (hv : v < 2 ^ 62) : zW (d + 1) mX10_leastTerm [.long (lN u), .long (lN v), .int w] σ ρ I L Q = Q (some (.long (lN (gpt u v (decide (w = nI 0)))))) σ ρ I L := by
  have hg := Nat.gcd_pos_of_pos_right u h0
  have hg2 := Nat.gcd_le_right u h0
  have hne : ¬ lN (Nat.gcd u v) = lN 0 := by rw [pk_lEQ (by omega) (by omega)]; omega
  have hne' : ¬ lN (Nat.gcd u v) = 0 := by rw [lN_0]; exact hne
  simp (disch := omega) only [nX10_leastTerm, bX10_leastTerm, zZ]
  refine k_euclid 62 u v 0 none none hu hv hv (by decide) (fun st' l10 l11 => ?_)
  unfold gpt
  by_cases c : w = nI 0
  · simp (disch := omega) only [bX10_leastTerm, c, lN_0, lg_0, hne, zZ, pk_lDiv, if_neg, decide_true, if_true]
  · simp (disch := omega) only [bX10_leastTerm, c, lN_0, lg_0, hne, zZ, pk_lDiv, if_neg, decide_false, Bool.false_eq_true, if_false]
theorem c_lots {p what : Int32} (hT : zTc T b I) (hw : zTw T) : zW (d + 2) mX10_lots [.ref 0, .int p, .int what] sg (rg b) I L Q = Q (some (.int (r_lots T p what))) sg (rg b) I L := by
  obtain ⟨⟨h0, h1, h2, h3, h4⟩, h5, h6, h7⟩ := hT
  unfold r_lots
  by_cases hp : 0 ≤ p.toInt ∧ p.toInt < ((tpn T).val : Int)
  · obtain ⟨j, hj, rfl⟩ := v_of (by omega) hp
    have hs := tsm_le T (tpn T)
    have hpos := tsm_pos hw (by omega)
    have hd := (thd T j).isLt
    by_cases hw2 : 0 ≤ what.toInt ∧ what.toInt < 4
    · rw [if_pos ⟨hp, hw2⟩]
      obtain ⟨w, hw3, rfl⟩ := v_of (n := 4) (by omega) (by omega)
      have : w = 0 ∨ w = 1 ∨ w = 2 ∨ w = 3 := by omega
      rcases this with rfl | rfl | rfl | rfl <;> simp (disch := omega) only [nX10_lots, bX10_lots, zZ, k_isPlace h0, h3, h4, nI_toInt, Int.toNat_natCast, nI_l, k_leastTerm, lN_i, if_pos, if_neg, decide_true, decide_false, show ¬ (1 : Nat) = 0 by decide]
      done
    · rw [if_neg (fun q => hw2 q.2)]
      simp (disch := omega) only [nX10_lots, bX10_lots, zZ, k_isPlace h0, zV3, if_pos, if_neg, ite_self]
      done
  · rw [if_neg (fun q => hp q.1)]
    simp (disch := omega) only [nX10_lots, bX10_lots, zZ, k_isPlace h0, zV3, if_pos, if_neg, ite_self]
    done
theorem sN_9 {f : Nat → Nat} {m : Nat} (h : ∀ i, f i ≤ m) : ∀ n, sN f n ≤ m * n
  | 0 => Nat.zero_le _
  | n + 1 => by
    have h1 := sN_9 h n
    have h2 := h n
    rw [sN_s, Nat.mul_succ]
    exact Nat.add_le_add h1 h2
theorem k_minutes (hT : zTc T b I) : zW (d + 1) mX9_minutesOfFirst [.ref (tc b 0)] sg (rg b) I L Q = Q (some (.int (nI (tsw T (tpn T))))) sg (rg b) I L := by
  obtain ⟨⟨h0, h1, h2, h3, h4⟩, h5, h6, h7⟩ := hT
  have hex : ∃ o : Nat → Nat, ∀ i, i < (tpn T).val → (o i < (tpn T).val ∧ trk T (o i) = i) ∧ I (tc b 5) i = nI (o i) := by
    refine ⟨fun i => (tor T i (tpn T)).getD 0, fun i hi => ?_⟩
    obtain ⟨j, j1, j2, j3⟩ := h6 i hi
    have e : (tor T i (tpn T)).getD 0 = j := by rw [j2]; rfl
    show ((tor T i (tpn T)).getD 0 < _ ∧ trk T ((tor T i (tpn T)).getD 0) = i) ∧ _ = nI ((tor T i (tpn T)).getD 0)
    rw [e]
    exact ⟨⟨j1, (tor_e _ _ j2).2⟩, j3⟩
  obtain ⟨o, ho⟩ := hex
  rw [tsw_o (fun i hi => (ho i hi).1)]
  have hg9 : ∀ i, sN (fun j => (thd T (o j)).val) i ≤ 9 * i := sN_9 (fun i => by omega)
  have h : ∀ i, i ≤ (tpn T).val → zq d mX9_minutesOfFirst Q 6 [some (.ref (tc b 0)), some (.int (nI (sN (fun i => sN (fun j => (thd T (o j)).val) (i + 1)) i))), some (.int (nI (sN (fun j => (thd T (o j)).val) i))), some (.int (nI i))] [] sg (rg b) I L = Q (some (.int (nI (sN (fun i => sN (fun j => (thd T (o j)).val) (i + 1)) (tpn T))))) sg (rg b) I L := by
    refine z_down _ ?_ (fun i hi ih => ?_)
    · rw [eX9_minutesOfFirst_6]
      simp (disch := omega) only [bX9_minutesOfFirst, zZ, h0, if_pos]
    · obtain ⟨⟨o1, o2⟩, o3⟩ := ho i hi
      rw [eX9_minutesOfFirst_6]
      simp (disch := omega) only [bX9_minutesOfFirst, zZ, h0, h4, o3, if_neg]
      exact ih
  simp (disch := omega) only [nX9_minutesOfFirst, bX9_minutesOfFirst, zZ]
  exact h 0 (Nat.zero_le _)
theorem c_sweep {what : Int32} (hT : zTc T b I) : zW (d + 2) mX10_sweep [.ref 0, .int what] sg (rg b) I L Q = Q (some (.int (r_sweep T what))) sg (rg b) I L := by
  have hk : ∀ Q, zW (d + 1) mX9_minutesOfFirst [.ref (tc b 0)] sg (rg b) I L Q = Q (some (.int (nI (tsw T (tpn T))))) sg (rg b) I L := fun Q => k_minutes hT
  obtain ⟨⟨h0, h1, h2, h3, h4⟩, h5, h6, h7⟩ := hT
  have hs := tsw_le T (tpn T)
  have e0 : (tpn T).val = 0 → tsw T (tpn T) = 0 := fun q => by rw [q]; rfl
  unfold r_sweep
  generalize tsw T (tpn T) = N at *
  have ka : ∀ {v : Nat} {Q : zPo}, 0 < v → v ≤ 6 → zW (d + 1) mX10_leastTerm [.long (lN N), .long (lN v), .int (nI 0)] sg (rg b) I L Q = Q (some (.long (lN (gpt N v true)))) sg (rg b) I L := fun q1 q2 => by rw [k_leastTerm (by omega) q1 (by omega), show decide (nI 0 = nI 0) = true from decide_eq_true rfl]
  have kb : ∀ {v : Nat} {Q : zPo}, 0 < v → v ≤ 6 → zW (d + 1) mX10_leastTerm [.long (lN N), .long (lN v), .int (nI 1)] sg (rg b) I L Q = Q (some (.long (lN (gpt N v false)))) sg (rg b) I L := fun q1 q2 => by rw [k_leastTerm (by omega) q1 (by omega), show decide (nI 1 = nI 0) = false by decide +kernel]
  have s1 : nI 1 - nI 1 = nI 0 := by decide +kernel
  have s2 : nI 2 - nI 1 = nI 1 := by decide +kernel
  by_cases hw : 0 ≤ what.toInt ∧ what.toInt < 3
  · rw [if_pos hw]
    obtain ⟨w, hw3, rfl⟩ := v_of (n := 3) (by omega) (by omega)
    have : w = 0 ∨ w = 1 ∨ w = 2 := by omega
    by_cases c0 : (tpn T).val = 0
    · have e0 := e0 c0
      have g1 : gpt N 1 true = 0 := by rw [e0]; rfl
      have g2 : gpt N 1 false = 1 := by rw [e0]; rfl
      rcases this with rfl | rfl | rfl
      · simp (disch := omega) only [nX10_sweep, bX10_sweep, zZ, h3, if_pos, if_neg]
      · simp (disch := omega) only [nX10_sweep, bX10_sweep, zZ, h0, h3, hk, c0, nI_l, s1, ka, g1, lN_i, if_pos, if_neg]
      · simp (disch := omega) only [nX10_sweep, bX10_sweep, zZ, h0, h3, hk, c0, nI_l, s2, kb, g2, lN_i, if_pos, if_neg]
    · by_cases c1 : 1 < (tpn T).val
      · rcases this with rfl | rfl | rfl
        · simp (disch := omega) only [nX10_sweep, bX10_sweep, zZ, h3, if_pos, if_neg]
        · simp (disch := omega) only [nX10_sweep, bX10_sweep, zZ, h0, h3, hk, c0, c1, nI_l, s1, ka, lN_i, if_pos, if_neg]
        · simp (disch := omega) only [nX10_sweep, bX10_sweep, zZ, h0, h3, hk, c0, c1, nI_l, s2, kb, lN_i, if_pos, if_neg]
      · have c2 : (tpn T).val = 1 := by omega
        rcases this with rfl | rfl | rfl
        · simp (disch := omega) only [nX10_sweep, bX10_sweep, zZ, h3, if_pos, if_neg]
        · simp (disch := omega) only [nX10_sweep, bX10_sweep, zZ, h0, h3, hk, c2, nI_l, s1, ka, lN_i, if_pos, if_neg]
        · simp (disch := omega) only [nX10_sweep, bX10_sweep, zZ, h0, h3, hk, c2, nI_l, s2, kb, lN_i, if_pos, if_neg]
  · rw [if_neg hw]
    simp (disch := omega) only [nX10_sweep, bX10_sweep, zZ, zV3, if_pos, if_neg, ite_self]
end S
